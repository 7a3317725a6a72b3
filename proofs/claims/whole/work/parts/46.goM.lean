def TM (h : aH) (k : Nat) (z : ZZ) : Prop := XM h k z.1 ∧ hI h 86 27 = z.2.1 ∧ hI h 86 28 = z.2.2.1 ∧ ∀ i, i < 8 → hI h 100 i = z.2.2.2 i
section GoM2
variable {N : Net} {h : aH} {k : Nat} {z : ZZ} {sem : Sem} {q : Nat}
theorem XM_up {x : XX} (S : XM h k x) (i : Nat) (v : Int32) : XM (sI h k i v) k (va_up x i v) := by
  intro j hj
  rw [hI_sI_r, if_pos rfl]
  unfold va_up
  split
  · rfl
  · exact S j hj
theorem XM_to {h1 : aH} {x : XX} (e : hI h1 k = hI h k) (S : XM h k x) : XM h1 k x := fun i hi => by rw [e]; exact S i hi
set_option maxHeartbeats 1000000 in
theorem gstep_eq (hk : k = 87 ∨ k = 99) (w : Wf h) (C : MN N h) (V : NV N) (R : RuleM h q sem) {B s : Nat} (hs : s < N_s N) (v : VS N B z.1) (hB : B < 2 ^ 31) (T : TM h k z) :
    ∃ h', lb_X12_goHour_2 86 k (nI s, h) = some (.inl (nI (s + 1), h')) ∧ Fr (mh k) h h' ∧ TM h' k (stp N sem s z) := by
  obtain ⟨f1, f2, f3, f4⟩ := V.2.2.2 s hs
  have h6 := V.1
  have h8 := V.2.1
  obtain ⟨S, tg, td, tt⟩ := T
  have ek : SH[k]? = some (14, 16) := by rcases hk with rfl | rfl <;> rfl
  have c1 : nI s < nI (N_s N) := nI_lt hs (by omega)
  have a13 : aI h k 14 13 = some (z.1 13) := by
    have := aI_eq w k 14 16 ek 13 (by omega) (by decide)
    rw [S 13 (by decide)] at this
    exact this
  unfold lb_X12_goHour_2
  simp only [w_gI w 86 11 2 rfl, C.2.1, Option.bind_some, if_pos c1, a13, has_eq h (z.1 13) (show s < 31 by omega), k_86 w, nI_1]
  by_cases st : isBit (z.1 13) s = true
  · rw [st, if_neg (show ¬ b2 true = 0 by decide)]
    refine ⟨h, rfl, Fr.refl _ _, ?_⟩
    unfold stp
    rw [if_pos st]
    exact ⟨S, tg, td, tt⟩
  · have st' : isBit (z.1 13) s = false := by simpa using st
    rw [st', if_pos (show b2 false = 0 from rfl), isOpen_eq hk w C V hs S, Option.bind_some]
    dsimp only
    obtain ⟨h1, e1⟩ : ∃ h1, h1 = sI h k 12 (onOf N z.1 s) := ⟨_, rfl⟩
    have w1 : Wf h1 := by rw [e1]; exact w
    have F1 : Fr (mh k) h h1 := by rw [e1]; exact (Fr.refl _ _).sI _ (mh_k k 12)
    have S1 : XM h1 k (va_up z.1 12 (onOf N z.1 s)) := by rw [e1]; exact XM_up S _ _
    rw [← e1]
    by_cases op : opn N z.1 s = true
    · rw [op]
      have n1 : ¬ b2 true = 0 := by decide
      rw [if_neg n1, k_86 w1, Option.bind_some]
      have v1 : VS N B (va_up z.1 12 (onOf N z.1 s)) := by
        obtain ⟨x1, x2, x3, x4, x5, x6⟩ := v
        refine ⟨fun i hi => ?_, fun i hi => ?_, onOf_ok V ⟨x1, x2, x3, x4, x5, x6⟩ hs, x4, x5, x6⟩
        · unfold va_up; rw [if_neg (by omega)]; exact x1 i hi
        · unfold va_up; rw [if_neg (by omega)]; exact x2 i hi
      obtain ⟨h2, ef, F12⟩ := flowOf_eq hk w1 (C.to hk F1) V hs S1 v1 hB (R.to hk F1)
      have efl : flw N sem (va_up z.1 12 (onOf N z.1 s)) s = flw N sem z.1 s := flw_on sem _ (by omega) (by omega)
      rw [efl] at ef
      rw [ef, Option.bind_some]
      dsimp only
      have w2 : Wf h2 := F12.wf w1
      have F2 : Fr (mh k) h h2 := F1.trans (F12.mono (mf_mh k))
      have row2 : ∀ a, a ≠ 86 → a ≠ 96 → hI h2 a = hI h1 a := fun a q1 q2 => F12.row a (fun j => by simp [mf, q1, q2])
      have fld2 : ∀ j, 22 ≤ j → hI h2 86 j = hI h1 86 j := fun j hj => F12.i 86 j (by simp [mf]; omega)
      have C2 := C.to hk F2
      obtain ⟨c4, c5, c6⟩ := C2.2.2.2 s hs
      have a4 : aI h2 88 14 (nI s) = some (nI (N_f N s)) := by rw [aI_eq w2 88 14 8 rfl s (by omega) (by decide), c4]
      have lv2 : ∀ i, i < 12 → hI h2 k i = z.1 i := fun i hi => by
        rw [row2 _ (by omega) (by omega), S1 i (by omega)]
        unfold va_up; rw [if_neg (by omega)]
      have l1 : aI h2 k 14 (nI (N_f N s)) = some (z.1 (N_f N s)) := by rw [aI_eq w2 k 14 16 ek (N_f N s) (by omega) (by decide), lv2 _ (by omega)]
      obtain ⟨h3, e3⟩ : ∃ h3, h3 = sI h2 k (N_f N s) (z.1 (N_f N s) - flw N sem z.1 s) := ⟨_, rfl⟩
      have w3 : Wf h3 := by rw [e3]; exact w2
      have a5 : aI h3 89 14 (nI s) = some (nI (N_t N s)) := by rw [aI_eq w3 89 14 8 rfl s (by omega) (by decide), e3, hI_sI_r, if_neg (by omega), c5]
      have l2 : aI h3 k 14 (nI (N_t N s)) = some (z.1 (N_t N s)) := by
        rw [aI_eq w3 k 14 16 ek (N_t N s) (by omega) (by decide), e3, hI_sI, if_neg (fun q => f3 q.2.symm), lv2 _ (by omega)]
      obtain ⟨h4, e4⟩ : ∃ h4, h4 = sI h3 k (N_t N s) (z.1 (N_t N s) + flw N sem z.1 s) := ⟨_, rfl⟩
      have w4 : Wf h4 := by rw [e4]; exact w3
      have a27 : hI h4 86 27 = z.2.1 := by
        rw [e4, hI_sI_r, if_neg (by omega), e3, hI_sI_r, if_neg (by omega), fld2 27 (by decide), e1, hI_sI_r, if_neg (by omega), tg]
      obtain ⟨h5, e5⟩ : ∃ h5, h5 = sI h4 86 27 (z.2.1 + flw N sem z.1 s) := ⟨_, rfl⟩
      have w5 : Wf h5 := by rw [e5]; exact w4
      have a7 : aI h5 100 14 (nI s) = some (z.2.2.2 s) := by
        rw [aI_eq w5 100 14 8 rfl s (by omega) (by decide), e5, hI_sI_r, if_neg (by decide), e4, hI_sI_r, if_neg (by omega), e3, hI_sI_r, if_neg (by omega), row2 100 (by decide) (by decide), e1, hI_sI_r, if_neg (by omega), tt s (by omega)]
      refine ⟨sI h5 100 s (z.2.2.2 s + flw N sem z.1 s), ?_, ?_, ?_⟩
      · simp only [g_86_4 w2, a4, l1, Option.bind_some, wI_eq w2 k 16 ek (N_f N s) (by omega) (by decide), ← e3, g_86_5 w3, a5, l2, wI_eq w3 k 16 ek (N_t N s) (by omega) (by decide), ← e4, w_gI w4 86 11 27 rfl, a27, w_pI w4 86 11 27 _ rfl, ← e5, g_86_29 w5, a7, wI_eq w5 100 8 rfl s (by omega) (by decide)]
      · have F3 : Fr (mh k) h h3 := by rw [e3]; exact F2.sI _ (mh_k k _)
        have F4 : Fr (mh k) h h4 := by rw [e4]; exact F3.sI _ (mh_k k _)
        have F5 : Fr (mh k) h h5 := by rw [e5]; exact F4.sI _ rfl
        exact F5.sI _ rfl
      · unfold stp
        rw [if_neg st, if_pos op]
        refine ⟨?_, ?_, ?_, ?_⟩
        · have ek1 : hI (sI h5 100 s (z.2.2.2 s + flw N sem z.1 s)) k = hI (sI (sI h1 k (N_f N s) (z.1 (N_f N s) - flw N sem z.1 s)) k (N_t N s) (z.1 (N_t N s) + flw N sem z.1 s)) k := by
            rw [hI_sI_r, if_neg (by omega), e5, hI_sI_r, if_neg (by omega), e4, hI_sI_r, if_pos rfl, e3, hI_sI_r, if_pos rfl, row2 k (by omega) (by omega), hI_sI_r, if_pos rfl, hI_sI_r, if_pos rfl]
          exact XM_to ek1 (XM_up (XM_up S1 _ _) _ _)
        · show hI (sI h5 100 s _) 86 27 = _
          rw [hI_sI_r, if_neg (by decide), e5, hI_sI]; simp
        · show hI (sI h5 100 s _) 86 28 = z.2.2.1
          rw [hI_sI_r, if_neg (by decide), e5, hI_sI, if_neg (by decide), e4, hI_sI_r, if_neg (by omega), e3, hI_sI_r, if_neg (by omega), fld2 28 (by decide), e1, hI_sI_r, if_neg (by omega), td]
        · intro i hi
          show hI (sI h5 100 s _) 100 i = va_up z.2.2.2 s (z.2.2.2 s + flw N sem z.1 s) i
          rw [hI_sI_r, if_pos rfl]
          unfold va_up
          split
          · rfl
          · rw [e5, hI_sI_r, if_neg (by decide), e4, hI_sI_r, if_neg (by omega), e3, hI_sI_r, if_neg (by omega), row2 100 (by decide) (by decide), e1, hI_sI_r, if_neg (by omega), tt i hi]
    · have op' : opn N z.1 s = false := by simpa using op
      rw [op']
      rw [if_pos (show b2 false = 0 from rfl)]
      refine ⟨h1, rfl, F1, ?_⟩
      unfold stp
      rw [if_neg st, if_neg op]
      refine ⟨S1, ?_, ?_, fun i hi => ?_⟩
      · rw [e1, hI_sI_r, if_neg (by omega)]; exact tg
      · rw [e1, hI_sI_r, if_neg (by omega)]; exact td
      · rw [e1, hI_sI_r, if_neg (by omega)]; exact tt i hi
theorem glstep_eq (hk : k = 87 ∨ k = 99) (w : Wf h) (C : MN N h) (V : NV N) {b : Nat} (hb : b < N_b N) (T : TM h k z) :
    ∃ h', lb_X12_goHour_92 86 k (nI b, h) = some (.inl (nI (b + 1), h')) ∧ Fr (mh k) h h' ∧ TM h' k (lkp N b z) := by
  have h6 := V.1
  obtain ⟨S, tg, td, tt⟩ := T
  have ek : SH[k]? = some (14, 16) := by rcases hk with rfl | rfl <;> rfl
  have c1 : nI b < nI (N_b N) := nI_lt hb (by omega)
  unfold lb_X12_goHour_92 lkp
  simp only [w_gI w 86 11 1 rfl, C.1, Option.bind_some, if_pos c1, w_gI w 86 11 3 rfl, C.2.2.1, has_eq h _ (show b < 31 by omega), nI_1]
  by_cases l : isBit (nI (N_l N)) b = true
  · rw [l, if_neg (show ¬ b2 true = 0 by decide), if_pos rfl]
    have l1 : aI h k 14 (nI b) = some (z.1 b) := by rw [aI_eq w k 14 16 ek b (by omega) (by decide), S b (by omega)]
    simp only [l1, Option.bind_some]
    by_cases c : z.1 b = 0
    · rw [if_pos c, if_pos c]
      exact ⟨h, rfl, Fr.refl _ _, S, tg, td, tt⟩
    · rw [if_neg c, if_neg c]
      obtain ⟨h1, e1⟩ : ∃ h1, h1 = sI h k b (z.1 b - 1) := ⟨_, rfl⟩
      have w1 : Wf h1 := by rw [e1]; exact w
      have g9 : hI h1 86 28 = z.2.2.1 := by rw [e1, hI_sI_r, if_neg (by omega)]; exact td
      obtain ⟨h2, e2⟩ : ∃ h2, h2 = sI h1 86 28 (z.2.2.1 + 1) := ⟨_, rfl⟩
      have w2 : Wf h2 := by rw [e2]; exact w1
      have g5 : aI h2 k 14 15 = some (z.1 15) := by
        have : aI h2 k 14 15 = _ := aI_eq w2 k 14 16 ek 15 (by omega) (by decide)
        rw [this, e2, hI_sI_r, if_neg (by omega), e1, hI_sI, if_neg (by omega), S 15 (by decide)]
      have g6 := wI_eq w2 k 16 ek 15 (by omega) (by decide) (mn 9999 (z.1 15 + 1))
      refine ⟨sI h2 k 15 (mn 9999 (z.1 15 + 1)), ?_, ?_, ?_⟩
      · simp only [wI_eq w k 16 ek b (by omega) (by decide), ← e1, Option.bind_some, w_gI w1 86 11 28 rfl, g9, w_pI w1 86 11 28 _ rfl, ← e2, g5]
        show ((wI h2 k (nI 15) _).bind _) = _
        rw [g6]
        rfl
      · have F1 : Fr (mh k) h h1 := by rw [e1]; exact (Fr.refl _ _).sI _ (mh_k k _)
        have F2 : Fr (mh k) h h2 := by rw [e2]; exact F1.sI _ rfl
        exact F2.sI _ (mh_k k _)
      · refine ⟨?_, ?_, ?_, fun i hi => ?_⟩
        · have : XM h2 k (va_up z.1 b (z.1 b - 1)) := by
            rw [e2]
            refine XM_to (h := h1) (by rw [hI_sI_r, if_neg (by omega)]) ?_
            rw [e1]
            exact XM_up S _ _
          exact XM_up this _ _
        · show hI (sI h2 k 15 _) 86 27 = z.2.1
          rw [hI_sI_r, if_neg (by omega), e2, hI_sI, if_neg (by decide), e1, hI_sI_r, if_neg (by omega)]; exact tg
        · show hI (sI h2 k 15 _) 86 28 = z.2.2.1 + 1
          rw [hI_sI_r, if_neg (by omega), e2, hI_sI]; simp
        · show hI (sI h2 k 15 _) 100 i = z.2.2.2 i
          rw [hI_sI_r, if_neg (by omega), e2, hI_sI_r, if_neg (by decide), e1, hI_sI_r, if_neg (by omega)]; exact tt i hi
  · have l' : isBit (nI (N_l N)) b = false := by simpa using l
    rw [l', if_pos (show b2 false = 0 from rfl), if_neg (by decide)]
    exact ⟨h, rfl, Fr.refl _ _, S, tg, td, tt⟩
/-- an hour of the reference -/
theorem goHour_eq (hk : k = 87 ∨ k = 99) (w : Wf h) (C : MN N h) (V : NV N) (R : RuleM h q sem) {B : Nat} (v : VS N B z.1) (hB : B < 2 ^ 31) (T : TM h k z) :
    ∃ h', fn_X12_goHour h 86 k = some h' ∧ Fr (mh k) h h' ∧ TM h' k (hrZ N sem z) := by
  have h6 := V.1
  have h8 := V.2.1
  have ek : SH[k]? = some (14, 16) := by rcases hk with rfl | rfl <;> rfl
  obtain ⟨h1, l1, F1, T1⟩ : ∃ h1, lp (lb_X12_goHour_2 86 k) lpN (0, h) = some h1 ∧ Fr (mh k) h h1 ∧ TM h1 k (swp N sem (N_s N) z) := by
    refine lp_inv (fun s q => q.1 = nI s ∧ Fr (mh k) h q.2 ∧ TM q.2 k (swp N sem s z)) (fun h1 => Fr (mh k) h h1 ∧ TM h1 k (swp N sem (N_s N) z)) (N_s N) (by omega) ?_ ?_ ⟨rfl, Fr.refl _ _, T⟩
    · rintro s ⟨i, g⟩ hs ⟨rfl, F, T⟩
      obtain ⟨g', e, F', T'⟩ := gstep_eq hk (F.wf w) (C.to hk F) V (R.to hk F) hs (swp_VS V sem v s (by omega)) hB T
      exact Or.inl ⟨_, e, rfl, F.trans F', T'⟩
    · rintro ⟨i, g⟩ ⟨rfl, F, T⟩
      refine ⟨g, ?_, F, T⟩
      unfold lb_X12_goHour_2
      simp only [w_gI (F.wf w) 86 11 2 rfl, (C.to hk F).2.1, Option.bind_some]
      rw [if_neg (nI_nlt (Nat.le_refl _) (by omega))]
  obtain ⟨h2, l2, F2, T2⟩ : ∃ h2, lp (lb_X12_goHour_92 86 k) lpN (0, h1) = some h2 ∧ Fr (mh k) h h2 ∧ TM h2 k (lks N (N_b N) (swp N sem (N_s N) z)) := by
    refine lp_inv (fun s q => q.1 = nI s ∧ Fr (mh k) h q.2 ∧ TM q.2 k (lks N s (swp N sem (N_s N) z))) (fun h1 => Fr (mh k) h h1 ∧ TM h1 k (lks N (N_b N) (swp N sem (N_s N) z))) (N_b N) (by omega) ?_ ?_ ⟨rfl, F1, T1⟩
    · rintro s ⟨i, g⟩ hs ⟨rfl, F, T⟩
      obtain ⟨g', e, F', T'⟩ := glstep_eq hk (F.wf w) (C.to hk F) V hs T
      exact Or.inl ⟨_, e, rfl, F.trans F', T'⟩
    · rintro ⟨i, g⟩ ⟨rfl, F, T⟩
      refine ⟨g, ?_, F, T⟩
      unfold lb_X12_goHour_92
      simp only [w_gI (F.wf w) 86 11 1 rfl, (C.to hk F).1, Option.bind_some]
      rw [if_neg (nI_nlt (Nat.le_refl _) (by omega))]
  have w2 := F2.wf w
  obtain ⟨S, tg, td, tt⟩ := T2
  have a14 : aI h2 k 14 14 = some ((lks N (N_b N) (swp N sem (N_s N) z)).1 14) := by
    have := aI_eq w2 k 14 16 ek 14 (by omega) (by decide)
    rw [S 14 (by decide)] at this
    exact this
  have w14 := wI_eq w2 k 16 ek 14 (by omega) (by decide) ((lks N (N_b N) (swp N sem (N_s N) z)).1 14 + 1)
  refine ⟨sI h2 k 14 ((lks N (N_b N) (swp N sem (N_s N) z)).1 14 + 1), ?_, F2.sI _ (mh_k k _), XM_up S _ _, ?_, ?_, fun i hi => ?_⟩
  · unfold fn_X12_goHour
    simp only [l1, Option.bind_some, l2, a14]
    show ((wI h2 k (nI 14) _).bind _) = _
    rw [w14]
    rfl
  · rw [hI_sI_r, if_neg (by omega)]; exact tg
  · rw [hI_sI_r, if_neg (by omega)]; exact td
  · rw [hI_sI_r, if_neg (by omega)]; exact tt i hi
theorem goHours_eq (hk : k = 87 ∨ k = 99) (w : Wf h) (C : MN N h) (V : NV N) (R : RuleM h q sem) {B : Nat} (v : VS N B z.1) (T : TM h k z) {n : Nat} (hn : n < 2000) (hB : B + n < 2 ^ 31) :
    ∃ h', fn_X12_goHours h 86 k (nI n) = some h' ∧ Fr (mh k) h h' ∧ TM h' k (hrs N sem n z) := by
  obtain ⟨h1, l1, F1, T1⟩ : ∃ h1, lp (lb_X12_goHours_2 86 k (nI n)) lpN (0, h) = some h1 ∧ Fr (mh k) h h1 ∧ TM h1 k (hrs N sem n z) := by
    refine lp_inv (fun s q => q.1 = nI s ∧ Fr (mh k) h q.2 ∧ TM q.2 k (hrs N sem s z)) (fun h1 => Fr (mh k) h h1 ∧ TM h1 k (hrs N sem n z)) n hn ?_ ?_ ⟨rfl, Fr.refl _ _, T⟩
    · rintro s ⟨i, g⟩ hs ⟨rfl, F, T⟩
      obtain ⟨g', e, F', T'⟩ := goHour_eq hk (F.wf w) (C.to hk F) V (R.to hk F) (hrs_VS V sem v s) (by omega) T
      refine Or.inl ⟨(nI (s + 1), g'), ?_, rfl, F.trans F', T'⟩
      unfold lb_X12_goHours_2
      simp only [if_pos (nI_lt hs (show n < 2 ^ 31 by omega)), k_86 (F.wf w), Option.bind_some, e, nI_1]
    · rintro ⟨i, g⟩ ⟨rfl, F, T⟩
      refine ⟨g, ?_, F, T⟩
      unfold lb_X12_goHours_2
      simp only [if_neg (nI_nlt (Nat.le_refl n) (show n < 2 ^ 31 by omega))]
  exact ⟨h1, by unfold fn_X12_goHours; rw [l1]; rfl, F1, T1⟩
end GoM2
