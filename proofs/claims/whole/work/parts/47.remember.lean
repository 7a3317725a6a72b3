theorem VS_congr {nb ns c : Nat} {x y : Nat → Int32} (h : ∀ k, k < 16 → y k = x k) (v : VS nb ns c x) : VS nb ns c y := by
  obtain ⟨v1, v2, v3, v4, v5, v6⟩ := v
  refine ⟨fun i hi => ?_, fun i hi => ?_, ?_, ?_, ?_, ?_⟩
  · rw [h i (by omega)]; exact v1 i hi
  · rw [h (6 + i) (by omega)]; exact v2 i hi
  · rw [h 12 (by decide)]; exact v3
  · rw [h 13 (by decide)]; exact v4
  · rw [h 14 (by decide)]; exact v5
  · rw [h 15 (by decide)]; exact v6
theorem VS_mono {nb ns c d : Nat} {x : Nat → Int32} (h : c ≤ d) (v : VS nb ns c x) : VS nb ns d x := by
  obtain ⟨v1, v2, v3, v4, ⟨t, ht, e⟩, v6⟩ := v
  exact ⟨v1, v2, v3, v4, ⟨t, Nat.le_trans ht (Nat.mul_le_mul_left _ h), e⟩, v6⟩
theorem SR_congr {f l m x y : Nat → Int32} (h : ∀ k, k < 16 → y k = x k) (v : SR f l m x) : SR f l m y := by
  obtain ⟨v1, v2, v3, v4, v5, v6⟩ := v
  refine ⟨fun i hi => ?_, fun i hi => ?_, ?_, ?_, ?_, ?_⟩
  · rw [h i (by omega)]; exact v1 i hi
  · rw [h (6 + i) (by omega)]; exact v2 i hi
  · rw [h 12 (by decide)]; exact v3
  · rw [h 13 (by decide)]; exact v4
  · rw [h 14 (by decide)]; exact v5
  · rw [h 15 (by decide)]; exact v6
theorem past_to {nb ns c : Nat} {h : aH} (r : R_past nb ns c (hI h 31 3) (hI h 86 24) (hR h 32) (rwP h) (hI h 97)) : ∃ n Pp ad, n ≤ 12 ∧ PastC n Pp ad h ∧ PastM n Pp h ∧ ∀ i, i < n → VS nb ns c (Pp i) := by
  obtain ⟨n, hn, e1, e2, ad, a1, a2, a3⟩ := r
  refine ⟨n, fun i k => hI h 97 (16 * i + k), ad, hn, ⟨e1, a1, a2, fun i hi => ?_⟩, ⟨e2, fun _ _ _ _ => rfl⟩, fun i hi => (a3 i hi).1⟩
  obtain ⟨z, hz, hz2⟩ := (a1 i (by omega)).2
  have := (a3 i hi).2
  unfold rwP at this
  rw [if_pos (by omega), if_pos (by omega), if_pos (by omega)] at this
  exact this
theorem past_of {nb ns c n : Nat} {h : aH} {Pp : Nat → Nat → Int32} {ad : Nat → Nat} (hn : n ≤ 12) (hc : PastC n Pp ad h) (hm : PastM n Pp h) (hv : ∀ i, i < n → VS nb ns c (Pp i)) : R_past nb ns c (hI h 31 3) (hI h 86 24) (hR h 32) (rwP h) (hI h 97) := by
  obtain ⟨e1, a1, a2, a3⟩ := hc
  refine ⟨n, hn, e1, hm.1, ad, a1, a2, fun i hi => ⟨VS_congr (hm.2 i hi) (hv i hi), ?_⟩⟩
  obtain ⟨z, hz, hz2⟩ := (a1 i (by omega)).2
  unfold rwP
  rw [if_pos (by omega), if_pos (by omega), if_pos (by omega)]
  exact SR_congr (hm.2 i hi) (a3 i hi)
/-- the reference's remember -/
theorem remember_eq {h : aH} (w : Wf h) {n a na : Nat} {Pp : Nat → Nat → Int32} (hn : n ≤ 12) (hp : PastM n Pp h) (ea : SH[a]? = some (14, na)) (ha : a ≠ 97 ∧ a ≠ 86) (hna : 16 ≤ na ∧ na < 10000) {x : Nat → Int32} (hx : ∀ k, k < 16 → hI h a k = x k) :
    ∃ h', fn_X12_remember h 86 a = some h' ∧ Wf h' ∧ hJ h' = hJ h ∧ hR h' = hR h ∧ (∀ b, b ≠ 97 → b ≠ 86 → hI h' b = hI h b) ∧ (∀ j, j ≠ 24 → hI h' 86 j = hI h 86 j) ∧ PastM (pshN n) (pshP n Pp x) h' := by
  have room : ∀ (m : Nat) (Pq : Nat → Nat → Int32) (g : aH), Wf g → m < 12 → PastM m Pq g → (∀ k, k < 16 → hI g a k = x k) → ∃ g', ((gR g 86 11 23).bind fun a4 => (gI g 86 11 24).bind fun x5 => (fn_X12_lay g a a4 (16 * x5)).bind fun h6 => (gI h6 86 11 24).bind fun x7 => (pI h6 86 11 24 (x7 + 1)).bind fun h8 => some h8) = some g' ∧
      Wf g' ∧ hJ g' = hJ g ∧ hR g' = hR g ∧ (∀ b, b ≠ 97 → b ≠ 86 → hI g' b = hI g b) ∧ (∀ j, j ≠ 24 → hI g' 86 j = hI g 86 j) ∧ PastM (m + 1) (fun i => if i = m then x else Pq i) g' := by
    intro m Pq g wg hm ⟨p1, p2⟩ hxg
    obtain ⟨L, eL⟩ : ∃ L, L = rI g 97 (va_cpy (hI g a) (hI g 97) 0 (16 * m) 16) := ⟨_, rfl⟩
    have wL : Wf L := by rw [eL]; exact wg
    have l1 : fn_X12_lay g a 97 (nI (16 * m)) = some L := by rw [eL]; exact lay_eq wg a 97 na 192 (16 * m) ea rfl ha.1 hna.1 (by omega) (by decide) hna.2
    have l2 : (16 : Int32) * nI m = nI (16 * m) := pk_mul 16 m
    have l3 : hI L 86 24 = nI m := by rw [eL]; exact p1
    refine ⟨sI L 86 24 (nI (m + 1)), ?_, wL, by rw [eL]; rfl, by rw [eL]; rfl, fun b h1 h2 => by rw [hI_sI_r, if_neg h2, eL, hI_rI, if_neg h1], fun j hj => by rw [hI_sI]; simp [hj]; rw [eL]; rfl, ?_⟩
    · simp only [g_86_23 wg, Option.bind_some, w_gI wg 86 11 24 rfl, p1, l2, l1, w_gI wL 86 11 24 rfl, l3, w_pI wL 86 11 24 _ rfl, nI_1]
    · refine ⟨by rw [hI_sI]; simp, fun i hi k hk => ?_⟩
      rw [hI_sI_r, if_neg (by decide), eL, hI_rI, if_pos rfl]
      by_cases him : i = m
      · subst him
        rw [cpy_in _ _ 0 _ 16 k hk, Nat.zero_add]
        simp only [if_true]
        exact hxg k hk
      · simp only [him, if_false]
        unfold va_cpy
        rw [if_neg (by omega)]
        exact p2 i (by omega) k hk
  unfold fn_X12_remember
  by_cases hf : n = 12
  · subst hf
    obtain ⟨F, eF⟩ : ∃ F : Nat → Nat → Int32, F = fun k j => if j < k then hI h 97 (j + 16) else hI h 97 j := ⟨_, rfl⟩
    have wk : ∀ k, Wf (rI h 97 (F k)) := fun k => w
    have e0 : rI h 97 (F 0) = h := by
      have : F 0 = hI h 97 := by rw [eF]; funext j; simp
      rw [this, rI_self]
    have loop : lp (lb_X12_remember_11 86 a) lpN (0, h) = some (rI h 97 (F 176)) := by
      refine lp_run (fun k => (nI k, rI h 97 (F k))) 176 _ ?_ ?_ (by decide) (by rw [e0]; rfl)
      · intro k hk
        have c1 : nI k < 176 := nI_lt (b := 176) (by omega) (by decide)
        have l2 : nI k + 16 = nI (k + 16) := nI_add k 16
        have f1 : F k (k + 16) = hI h 97 (k + 16) := by rw [eF]; dsimp only; rw [if_neg (by omega)]
        unfold lb_X12_remember_11
        simp only [c1, if_true, g_86_23 (wk k), Option.bind_some, l2, aI_eq (wk k) 97 14 192 rfl (k + 16) (by omega) (by decide), hI_rI, f1, wI_eq (wk k) 97 192 rfl k (by omega) (by decide), sI_rI, nI_1]
        have : va_up (F k) k (hI h 97 (k + 16)) = F (k + 1) := by
          funext j
          rw [eF]
          unfold va_up
          by_cases hj : j = k
          · subst hj; simp
          · by_cases hj2 : j < k
            · simp [hj, hj2, show j < k + 1 by omega]
            · simp [hj, hj2, show ¬ j < k + 1 by omega]
        rw [this]
      · have c2 : ¬ nI 176 < 176 := by decide
        unfold lb_X12_remember_11
        simp only [c2, if_false]
    have w1 := wk 176
    obtain ⟨G, eG⟩ : ∃ G, G = sI (rI h 97 (F 176)) 86 24 (nI 11) := ⟨_, rfl⟩
    have wG : Wf G := by rw [eG]; exact w
    have g11 : PastM 11 (fun i => Pp (i + 1)) G := by
      refine ⟨by rw [eG, hI_sI]; simp, fun i hi k hk => ?_⟩
      rw [eG, hI_sI_r, if_neg (by decide), hI_rI, if_pos rfl, eF]
      dsimp only
      rw [if_pos (by omega), show 16 * i + k + 16 = 16 * (i + 1) + k by omega]
      exact hp.2 (i + 1) (by omega) k hk
    obtain ⟨g', f1, f2, f3, f4, f5, f6, f7⟩ := room 11 _ G wG (by decide) g11 (fun k hk => by rw [eG, hI_sI_r, if_neg ha.2, hI_rI, if_neg ha.1]; exact hx k hk)
    refine ⟨g', ?_, f2, by rw [f3, eG]; rfl, by rw [f4, eG]; rfl, fun b h1 h2 => by rw [f5 b h1 h2, eG, hI_sI_r, if_neg h2, hI_rI, if_neg h1], fun j hj => by rw [f6 j hj, eG, hI_sI]; simp [hj]; rfl, f7⟩
    have e12 : hI h 86 24 = 12 := hp.1
    have e13 : hI (rI h 97 (F 176)) 86 24 = 12 := hp.1
    have e14 : (12 : Int32) - 1 = nI 11 := by decide
    simp only [w_gI w 86 11 24 rfl, Option.bind_some, e12, if_true, loop, w_gI w1 86 11 24 rfl, e13, w_pI w1 86 11 24 _ rfl, e14, ← eG]
    exact f1
  · obtain ⟨g', f1, f2, f3, f4, f5, f6, f7⟩ := room n _ h w (by omega) hp hx
    refine ⟨g', ?_, f2, f3, f4, f5, f6, ?_⟩
    · have e12 : ¬ hI h 86 24 = 12 := by rw [hp.1]; exact fun q => hf ((nI_eq (b := 12) (by omega) (by decide)).mp q)
      simp only [w_gI w 86 11 24 rfl, Option.bind_some, e12, if_false]
      have := f1
      simp only [w_gI w 86 11 24 rfl, Option.bind_some] at this
      exact this
    · unfold pshN pshP
      rw [if_neg hf, if_neg hf]
      exact f7
theorem psh_VS {nb ns c n : Nat} {Pp : Nat → Nat → Int32} {x : Nat → Int32} (hn : n ≤ 12) (hv : ∀ i, i < n → VS nb ns c (Pp i)) (hx : VS nb ns c x) : pshN n ≤ 12 ∧ ∀ i, i < pshN n → VS nb ns c (pshP n Pp x i) := by
  unfold pshN pshP
  by_cases hf : n = 12
  · subst hf
    simp only [if_true]
    refine ⟨by omega, fun i hi => ?_⟩
    by_cases h11 : i = 11
    · simp only [h11, if_true]; exact hx
    · simp only [h11, if_false]; exact hv (i + 1) (by omega)
  · simp only [hf, if_false]
    refine ⟨by omega, fun i hi => ?_⟩
    by_cases h11 : i = n
    · simp only [h11, if_true]; exact hx
    · simp only [h11, if_false]; exact hv i (by omega)
