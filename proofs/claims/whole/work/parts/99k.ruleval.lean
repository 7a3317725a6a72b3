/-! a rule: what the class's code is worth -/
def SAI (f : Nat → Int32) : List Int32 → Prop
  | [] => True
  | v :: R => f R.length = v ∧ SAI f R
theorem SAI_up {f : Nat → Int32} {k : Nat} {v : Int32} : ∀ S : List Int32, S.length ≤ k → SAI f S → SAI (va_up f k v) S
  | [], _, _ => trivial
  | w :: R, h, ⟨h1, h2⟩ => by
    have h : R.length + 1 ≤ k := h
    refine ⟨?_, SAI_up R (by omega) h2⟩
    unfold va_up
    rw [if_neg (by omega)]; exact h1
theorem neg_th : ∀ u, u < 1000 → nI u - (1000 : Int32) < 0 := by decide +kernel
theorem joined_eq (h : aH) {u : Nat} (h1 : 2000 ≤ u) (h2 : u < 4000) (a b : Int32) : fn_X4_joined h (nI u - 2000) a b = some (jn u a b) := by
  have e : nI u - 2000 = nI (u - 2000) := nI_sub (a := u) (b := 2000) h1
  rw [e]
  have k : ∀ c, c < 100 → (nI (u - 2000) = nI c ↔ u = 2000 + c) := fun c hc => by
    rw [nI_eq (by omega) (by omega)]
    omega
  have k1 : nI (u - 2000) = 42 ↔ u = 2042 := k 42 (by decide)
  have k2 : nI (u - 2000) = 43 ↔ u = 2043 := k 43 (by decide)
  have k3 : nI (u - 2000) = 45 ↔ u = 2045 := k 45 (by decide)
  have k4 : nI (u - 2000) = 47 ↔ u = 2047 := k 47 (by decide)
  have k5 : nI (u - 2000) = 60 ↔ u = 2060 := k 60 (by decide)
  have k6 : nI (u - 2000) = 62 ↔ u = 2062 := k 62 (by decide)
  unfold fn_X4_joined jn
  simp only [k1, k2, k3, k4, k5, k6]
  by_cases c1 : u = 2042
  · rw [if_pos c1, if_pos c1]
  rw [if_neg c1, if_neg c1]
  by_cases c2 : u = 2043
  · rw [if_pos c2, if_pos c2]
  rw [if_neg c2, if_neg c2]
  by_cases c3 : u = 2045
  · rw [if_pos c3, if_pos c3]
  rw [if_neg c3, if_neg c3]
  by_cases c4 : u = 2047
  · rw [if_pos c4, if_pos c4]
    by_cases z : b = 0
    · rw [if_pos z, if_pos z]
    · rw [if_neg z, if_neg z]
      unfold idv
      rw [if_neg z]
      rfl
  rw [if_neg c4, if_neg c4]
  by_cases c5 : u = 2060
  · rw [if_pos c5, if_pos c5]
    split <;> rfl
  rw [if_neg c5, if_neg c5]
  by_cases c6 : u = 2062
  · rw [if_pos c6, if_pos c6]
    split <;> rfl
  rw [if_neg c6, if_neg c6]
  split <;> rfl
section VALC
variable {h : aH} {q : Nat → Int32}
theorem thingV {h : aH} (w : Wf h) (hq : ∀ j, j < 7 → hI h 8 j = q j) {u : Nat} (hu : u < 2000) : fn_X4_valueOfThing h (nI u) 8 = some (if 1000 ≤ u ∧ u < 1007 then q (u - 1000) else nI u) := by
  have al7 : al h 8 = some 7 := by unfold al; rw [w.1]; rfl
  unfold fn_X4_valueOfThing
  rw [Option.bind_some]
  by_cases c : u < 1000
  · rw [if_pos (neg_th u c), if_neg (by omega)]
  · have e : nI u - 1000 = nI (u - 1000) := nI_sub (a := u) (b := 1000) (by omega)
    rw [e, if_neg (nI_pos (by omega)), al7, Option.bind_some]
    by_cases c2 : u < 1007
    · rw [if_pos (show nI (u - 1000) < 7 from nI_lt (b := 7) (by omega) (by decide)), aI_eq w 8 14 7 rfl (u - 1000) (by omega) (by decide), hq _ (by omega), if_pos ⟨by omega, c2⟩]
      rfl
    · rw [if_neg (show ¬ nI (u - 1000) < 7 from nI_nlt (b := 7) (by omega) (by omega)), if_neg (by omega)]
theorem value_C {r : Nat} (hr : r = 14 ∨ r = 17) (w : Wf h) {code : List Nat} (c2 : hI h r 2 = nI code.length) (ca : CA (hI h (r + 1)) code) (hl : code.length ≤ 40) (hw : ∀ i, i < code.length → code.getD i 0 < 4000) (hq : ∀ j, j < 7 → hI h 8 j = q j) {v : Int32} (hv : ex q code [] = [v]) : ∃ f, fn_X4_value h r 8 = some (v, rI h (r + 2) f) := by
  have shr : SH[r]? = some (3, 0) ∧ SH[r + 1]? = some (14, 40) ∧ SH[r + 2]? = some (14, 40) ∧ (r, 0, r + 1) ∈ FXR ∧ (r, 1, r + 2) ∈ FXR := by rcases hr with rfl | rfl <;> exact ⟨rfl, rfl, rfl, by decide, by decide⟩
  have e1 : (SH[r]?).map Prod.fst = some 3 := by rw [shr.1]; rfl
  have wf : ∀ f, Wf (rI h (r + 2) f) := fun f => w
  have hrow : ∀ f a, a ≠ r + 2 → hI (rI h (r + 2) f) a = hI h a := fun f a ha => by rw [hI_rI, if_neg ha]
  have hst : ∀ f, hI (rI h (r + 2) f) (r + 2) = f := fun f => by rw [hI_rI, if_pos rfl]
  have sIr : ∀ f k x, sI (rI h (r + 2) f) (r + 2) k x = rI h (r + 2) (va_up f k x) := fun f k x => sI_rI h (r + 2) k f x
  obtain ⟨⟨x, h'⟩, e, z1, f, z2⟩ : ∃ o : Int32 × aH, lp (lb_X4_value_4 r 8) lpN (0, 0, h) = some o ∧ o.1 = v ∧ ∃ f, o.2 = rI h (r + 2) f := by
    refine lp_inv (fun k (s : Int32 × Int32 × aH) => ∃ st f, s.1 = nI st.length ∧ s.2.1 = nI k ∧ s.2.2 = rI h (r + 2) f ∧ SAI f st ∧ st.length ≤ k ∧ ex q (code.drop k) st = [v]) (fun (o : Int32 × aH) => o.1 = v ∧ ∃ f, o.2 = rI h (r + 2) f) code.length (by omega) ?_ ?_ ⟨[], hI h (r + 2), rfl, rfl, (rI_self h (r + 2)).symm, trivial, Nat.le_refl _, hv⟩
    · rintro k ⟨s1, s2, g⟩ hk ⟨st, f, rfl, rfl, rfl, sa, hs, ev⟩
      left
      have wg := wf f
      have hu := hw k hk
      have ed : code.drop k = code.getD k 0 :: code.drop (k + 1) := by
        rw [List.drop_eq_getElem_cons hk]
        have : code.getD k 0 = code[k] := by simp [hk]
        rw [this]
      rw [ed] at ev
      have ev : ex q (code.drop (k + 1)) (ex1 q st (code.getD k 0)) = [v] := ev
      have gc : aI (rI h (r + 2) f) (r + 1) 14 (nI k) = some (nI (code.getD k 0)) := by
        rw [aI_eq wg (r + 1) 14 40 shr.2.1 k (by omega) (by decide), hrow f (r + 1) (by omega), ca k hk]
      have g0 : gI (rI h (r + 2) f) r 3 2 = some (nI code.length) := by rw [w_gI wg r 3 2 e1, hrow f r (by omega), c2]
      have gr0 : gR (rI h (r + 2) f) r 3 0 = some (r + 1) := w_gR wg r 3 0 (r + 1) e1 shr.2.2.2.1
      have gr1 : ∀ f, gR (rI h (r + 2) f) r 3 1 = some (r + 2) := fun f => w_gR (wf f) r 3 1 (r + 2) e1 shr.2.2.2.2
      have hq' : ∀ j, j < 7 → hI (rI h (r + 2) f) 8 j = q j := fun j hj => by rw [hrow f 8 (by omega)]; exact hq j hj
      have ck : nI k < nI code.length := nI_lt hk (by omega)
      generalize code.getD k 0 = u at hu ev gc
      have wr : ∀ j x, j < 40 → wI (rI h (r + 2) f) (r + 2) (nI j) x = some (rI h (r + 2) (va_up f j x)) := fun j x hj => by rw [wI_eq wg (r + 2) 40 shr.2.2.1 j hj (by decide), sIr]
      have rd : ∀ j, j < 40 → aI (rI h (r + 2) f) (r + 2) 14 (nI j) = some (f j) := fun j hj => by rw [aI_eq wg (r + 2) 14 40 shr.2.2.1 j hj (by decide), hst]
      by_cases c1 : u < 2000
      · have e1 : ex1 q st u = (if 1000 ≤ u ∧ u < 1007 then q (u - 1000) else nI u) :: st := by unfold ex1; rw [if_pos c1]
        rw [e1] at ev
        generalize hx : (if 1000 ≤ u ∧ u < 1007 then q (u - 1000) else nI u) = x at ev
        have tv := thingV wg hq' c1
        rw [hx] at tv
        refine ⟨(nI (st.length + 1), nI (k + 1), rI h (r + 2) (va_up f st.length x)), ?_, x :: st, va_up f st.length x, rfl, rfl, rfl, ⟨?_, SAI_up st (Nat.le_refl _) sa⟩, by show st.length + 1 ≤ k + 1; omega, ev⟩
        · unfold lb_X4_value_4
          simp only [g0, Option.bind_some]
          rw [if_pos ck]
          simp only [gr0, Option.bind_some, gc]
          rw [if_pos (show nI u < 2000 from nI_lt (b := 2000) c1 (by decide)), if_pos (show nI st.length < 40 from nI_lt (b := 40) (by omega) (by decide))]
          simp only [gr1, Option.bind_some, tv, wr st.length x (by omega), nI_1]
        · unfold va_up; rw [if_pos rfl]
      · have n2000 : ¬ nI u < 2000 := nI_nlt (b := 2000) (by omega) (by omega)
        have k3000 : nI u = 3000 ↔ u = 3000 := nI_eq (b := 3000) (by omega) (by decide)
        have front : lb_X4_value_4 r 8 (nI st.length, nI k, rI h (r + 2) f) = (if nI u = 3000 then (if nI st.length ≤ 0 then (if nI st.length ≤ 1 then some (.inl (nI st.length, nI (k + 1), rI h (r + 2) f)) else (aI (rI h (r + 2) f) (r + 2) 14 (nI st.length + (-1) - 1)).bind fun x21 => (aI (rI h (r + 2) f) (r + 2) 14 (nI st.length + (-1))).bind fun x23 => (fn_X4_joined (rI h (r + 2) f) (nI u - 2000) x21 x23).bind fun x24 => (wI (rI h (r + 2) f) (r + 2) (nI st.length + (-1) - 1) x24).bind fun h25 => some (.inl (nI st.length + (-1), nI (k + 1), h25))) else (aI (rI h (r + 2) f) (r + 2) 14 (nI st.length - 1)).bind fun x30 => (wI (rI h (r + 2) f) (r + 2) (nI st.length - 1) (-x30)).bind fun h31 => some (.inl (nI st.length, nI (k + 1), h31))) else (if nI st.length ≤ 1 then some (.inl (nI st.length, nI (k + 1), rI h (r + 2) f)) else (aI (rI h (r + 2) f) (r + 2) 14 (nI st.length + (-1) - 1)).bind fun x10 => (aI (rI h (r + 2) f) (r + 2) 14 (nI st.length + (-1))).bind fun x12 => (fn_X4_joined (rI h (r + 2) f) (nI u - 2000) x10 x12).bind fun x13 => (wI (rI h (r + 2) f) (r + 2) (nI st.length + (-1) - 1) x13).bind fun h14 => some (.inl (nI st.length + (-1), nI (k + 1), h14)))) := by
          unfold lb_X4_value_4
          simp only [g0, Option.bind_some]
          rw [if_pos ck]
          simp only [gr0, Option.bind_some, gc]
          rw [if_neg n2000]
          simp only [gr1, Option.bind_some, nI_1]
        by_cases c3 : u = 3000
        · rw [front, if_pos (k3000.mpr c3)]
          cases st with
          | nil =>
            have ex3 : ex1 q [] u = [] := by unfold ex1; rw [if_neg c1, if_pos c3]
            rw [ex3] at ev
            rw [if_pos (show nI ([] : List Int32).length ≤ 0 by decide), if_pos (show nI ([] : List Int32).length ≤ 1 by decide)]
            exact ⟨_, rfl, [], f, rfl, rfl, rfl, trivial, Nat.zero_le _, ev⟩
          | cons a R =>
            have ex3 : ex1 q (a :: R) u = (-a) :: R := by unfold ex1; rw [if_neg c1, if_pos c3]
            rw [ex3] at ev
            have hs : R.length + 1 ≤ k := hs
            have l1 : (a :: R).length = R.length + 1 := rfl
            have m1 : nI (R.length + 1) - 1 = nI R.length := by rw [nI_sub1 (by omega), Nat.add_sub_cancel]
            rw [l1, if_neg (show ¬ nI (R.length + 1) ≤ 0 from nI_ge (a := 0) (by omega) (by omega)), m1, rd R.length (by omega), Option.bind_some, wr R.length _ (by omega), Option.bind_some]
            refine ⟨_, rfl, (-a) :: R, va_up f R.length (-f R.length), rfl, rfl, rfl, ⟨?_, SAI_up R (Nat.le_refl _) sa.2⟩, by show R.length + 1 ≤ k + 1; omega, ev⟩
            unfold va_up; rw [if_pos rfl, sa.1]
        · rw [front, if_neg (fun z => c3 (k3000.mp z))]
          match st, hs, sa, ev with
          | [], hs, sa, ev =>
            have ex3 : ex1 q [] u = [] := by unfold ex1; rw [if_neg c1, if_neg c3]
            rw [ex3] at ev
            rw [if_pos (show nI ([] : List Int32).length ≤ 1 by decide)]
            exact ⟨_, rfl, [], f, rfl, rfl, rfl, trivial, Nat.zero_le _, ev⟩
          | [a], hs, sa, ev =>
            have ex3 : ex1 q [a] u = [a] := by unfold ex1; rw [if_neg c1, if_neg c3]
            rw [ex3] at ev
            have hs : 1 ≤ k := hs
            rw [if_pos (show nI ([a] : List Int32).length ≤ 1 from (by decide : nI 1 ≤ 1))]
            exact ⟨_, rfl, [a], f, rfl, rfl, rfl, sa, by show 1 ≤ k + 1; omega, ev⟩
          | b :: a :: R, hs, sa, ev =>
            have ex3 : ex1 q (b :: a :: R) u = jn u a b :: R := by unfold ex1; rw [if_neg c1, if_neg c3]
            rw [ex3] at ev
            have hs : R.length + 1 + 1 ≤ k := hs
            have l1 : (b :: a :: R).length = R.length + 2 := rfl
            have m1 : nI (R.length + 2) + (-1) = nI (R.length + 1) := by
              rw [← Int32.sub_eq_add_neg, nI_sub1 (by omega)]; rfl
            have m2 : nI (R.length + 1) - 1 = nI R.length := by rw [nI_sub1 (by omega), Nat.add_sub_cancel]
            have b1 : f (R.length + 1) = b := sa.1
            have a1 : f R.length = a := sa.2.1
            rw [l1, if_neg (show ¬ nI (R.length + 2) ≤ 1 from nI_ge (a := 1) (by omega) (by omega)), m1, m2, rd R.length (by omega), Option.bind_some, rd (R.length + 1) (by omega), Option.bind_some, joined_eq _ (by omega) (by omega), Option.bind_some, wr R.length _ (by omega), Option.bind_some, b1, a1]
            refine ⟨_, rfl, jn u a b :: R, va_up f R.length (jn u a b), rfl, rfl, rfl, ⟨?_, SAI_up R (Nat.le_refl _) sa.2.2⟩, by show R.length + 1 ≤ k + 1; omega, ev⟩
            unfold va_up; rw [if_pos rfl]
    · rintro ⟨s1, s2, g⟩ ⟨st, f, rfl, rfl, rfl, sa, hs, ev⟩
      rw [List.drop_of_length_le (Nat.le_refl _)] at ev
      have ev : st = [v] := ev
      subst ev
      refine ⟨(v, rI h (r + 2) f), ?_, rfl, f, rfl⟩
      have wg := wf f
      unfold lb_X4_value_4
      have g0 : gI (rI h (r + 2) f) r 3 2 = some (nI code.length) := by rw [w_gI wg r 3 2 e1, hrow f r (by omega), c2]
      have gr1 : gR (rI h (r + 2) f) r 3 1 = some (r + 2) := w_gR wg r 3 1 (r + 2) e1 shr.2.2.2.2
      have rd0 : aI (rI h (r + 2) f) (r + 2) 14 0 = some v := by
        rw [show (0 : Int32) = nI 0 from rfl, aI_eq wg (r + 2) 14 40 shr.2.2.1 0 (by decide) (by decide), hst]
        exact congrArg some sa.1
      simp only [g0, Option.bind_some]
      rw [if_neg (nI_nlt (Nat.le_refl _) (by omega))]
      simp only [gr1, Option.bind_some, rd0]
  dsimp only at z1 z2
  subst z1 z2
  refine ⟨f, ?_⟩
  unfold fn_X4_value
  rw [e]
  rfl
def semOf (code : List Nat) : Sem := fun q => (ex q code []).headD 0
theorem RuleC_of {r : Nat} (hr : r = 14 ∨ r = 17) {code : List Nat} (c2 : hI h r 2 = nI code.length) (ca : CA (hI h (r + 1)) code) (hl : code.length ≤ 40) (hw : ∀ i, i < code.length → code.getD i 0 < 4000) (hv : ∀ q, ∃ v, ex q code [] = [v]) : RuleC h r (semOf code) := by
  refine ⟨hr, fun h' q w a1 a2 a3 => ?_⟩
  obtain ⟨v, e⟩ := hv q
  have es : semOf code q = v := by unfold semOf; rw [e]; rfl
  obtain ⟨f, e2⟩ := value_C hr w (h := h') (a2.trans c2) (by rw [a1]; exact ca) hl hw a3 e
  rw [es]
  rcases hr with rfl | rfl
  · refine ⟨f, hI (rI h' 16 f) 19, ?_⟩
    rw [rI_self]; exact e2
  · refine ⟨hI h' 16, f, ?_⟩
    rw [rI_self]; exact e2
end VALC
