/-! water that is poured, boats; years -/
section Acts
variable {N : Net} {sem : Sem} {h : aH} {k : Nat} {y : XX}
theorem fillC_eq (hk : k = 22 ∨ k = 28) (w : Wf h) (S : St h k y) {b : Nat} (hb : b < 6) (v : Int32) : fn_X0_fill h 3 k (nI b) v = if y b + v ≤ 9 then some (1, sI h (k + 1) b (y b + v)) else some (0, h) := by
  have e14 : SH[k + 1]? = some (14, 6) := by rcases hk with rfl | rfl <;> rfl
  have l1 : aI h (k + 1) 14 (nI b) = some (y b) := by rw [aI_eq w (k + 1) 14 6 e14 b hb (by decide), S.1 b hb]
  unfold fn_X0_fill
  simp only [gk0_eq hk w, Option.bind_some, l1, wI_eq w (k + 1) 6 e14 b hb (by decide)]
def btX (N : Net) (y : XX) (s : Nat) : XX := va_up (va_up y (N_f N s) (y (N_f N s) - 1)) (N_t N s) (y (N_t N s) + 1)
theorem carryC_eq (hk : k = 22 ∨ k = 28) (w : Wf h) (C : CN N h) (V : NV N) (S : St h k y) {s : Nat} (hs : s < N_s N) : fn_X0_carry h 3 k (nI s) = if y (N_f N s) = 0 then some (0, h) else if y (N_t N s) = 9 then some (0, h) else some (1, sI (sI h (k + 1) (N_f N s) (y (N_f N s) - 1)) (k + 1) (N_t N s) (y (N_t N s) + 1)) := by
  have h6 := V.1
  have h8 := V.2.1
  obtain ⟨f1, f2, f3, f4⟩ := V.2.2.2 s hs
  obtain ⟨c4, c5, c6⟩ := C.2.2.2 s hs
  have e14 : SH[k + 1]? = some (14, 6) := by rcases hk with rfl | rfl <;> rfl
  have a4 : aI h 4 14 (nI s) = some (nI (N_f N s)) := by rw [aI_eq w 4 14 8 rfl s (by omega) (by decide), c4]
  have a5 : aI h 5 14 (nI s) = some (nI (N_t N s)) := by rw [aI_eq w 5 14 8 rfl s (by omega) (by decide), c5]
  have l1 : aI h (k + 1) 14 (nI (N_f N s)) = some (y (N_f N s)) := by rw [aI_eq w (k + 1) 14 6 e14 _ (by omega) (by decide), S.1 _ (by omega)]
  have l2 : aI h (k + 1) 14 (nI (N_t N s)) = some (y (N_t N s)) := by rw [aI_eq w (k + 1) 14 6 e14 _ (by omega) (by decide), S.1 _ (by omega)]
  have w1 : Wf (sI h (k + 1) (N_f N s) (y (N_f N s) - 1)) := w
  have l3 : aI (sI h (k + 1) (N_f N s) (y (N_f N s) - 1)) (k + 1) 14 (nI (N_t N s)) = some (y (N_t N s)) := by rw [aI_eq w1 (k + 1) 14 6 e14 _ (by omega) (by decide), hI_sI, if_neg (fun q => f3 q.2.symm), S.1 _ (by omega)]
  unfold fn_X0_carry
  simp only [g_3_3 w, g_3_4 w, a4, a5, gk0_eq hk w, Option.bind_some, l1, l2, wI_eq w (k + 1) 6 e14 _ (show N_f N s < 6 by omega) (by decide), gk0_eq hk w1, l3, wI_eq w1 (k + 1) 6 e14 _ (show N_t N s < 6 by omega) (by decide)]
theorem St_boat (hk : k = 22 ∨ k = 28) (V : NV N) (S : St h k y) {s : Nat} (hs : s < N_s N) : St (sI (sI h (k + 1) (N_f N s) (y (N_f N s) - 1)) (k + 1) (N_t N s) (y (N_t N s) + 1)) k (btX N y s) := by
  have h6 := V.1
  obtain ⟨f1, f2, f3, f4⟩ := V.2.2.2 s hs
  unfold St
  rw [hI_sI_r, if_neg (by omega), hI_sI_r, if_neg (by omega), hI_sI_r, if_pos rfl, hI_sI_r, if_pos rfl, hI_sI_r, if_neg (by omega), hI_sI_r, if_neg (by omega)]
  exact mul_upd_lv (mul_upd_lv S (by omega) _) (by omega) _
theorem refWater_eq (hk : k = 87 ∨ k = 99) (w : Wf h) (C : MN N h) (V : NV N) (S : XM h k y) {b : Nat} (hb : b < N_b N) (v : Int32) : fn_X12_refusesWater h 86 k (nI b) v = if (mab v < 1 ∨ ¬ mab v ≤ 9) then some (-1) else if (y b + v < 0 ∨ ¬ y b + v ≤ 9) then some (-2) else some 0 := by
  have h6 := V.1
  have ek : SH[k]? = some (14, 16) := by rcases hk with rfl | rfl <;> rfl
  have l1 : aI h k 14 (nI b) = some (y b) := by rw [aI_eq w k 14 16 ek b (by omega) (by decide), S b (by omega)]
  have ib : fn_X12_isBasin h 86 (nI b) = some 1 := by
    rw [isBasin_eq w, C.1, if_neg (nI_pos (by omega)), if_pos]
    obtain ⟨m, em⟩ : ∃ m, N_b N = m + 1 := ⟨N_b N - 1, by omega⟩
    rw [em, nI_pred]
    exact nI_le (by omega) (by omega)
  unfold fn_X12_refusesWater
  simp only [k_86 w, Option.bind_some, ib, if_neg one0, in_eq, l1]
  by_cases c1 : mab v < 1
  · simp [c1]
  · by_cases c2 : mab v ≤ 9
    · by_cases c3 : y b + v < 0
      · simp [c1, c2, c3]
      · by_cases c4 : y b + v ≤ 9
        · simp [c1, c2, c3, c4]
        · simp [c1, c2, c3, c4]
    · simp [c1, c2]
theorem refBoat_eq (hk : k = 87 ∨ k = 99) (w : Wf h) (C : MN N h) (V : NV N) (S : XM h k y) {s : Nat} (hs : s < N_s N) : fn_X12_refusesBoat h 86 k (nI s) = if y (N_f N s) = 0 then some (-2) else if y (N_t N s) = 9 then some (-2) else some 0 := by
  have h6 := V.1
  have h8 := V.2.1
  obtain ⟨f1, f2, f3, f4⟩ := V.2.2.2 s hs
  obtain ⟨c4, c5, c6⟩ := C.2.2.2 s hs
  have ek : SH[k]? = some (14, 16) := by rcases hk with rfl | rfl <;> rfl
  have a4 : aI h 88 14 (nI s) = some (nI (N_f N s)) := by rw [aI_eq w 88 14 8 rfl s (by omega) (by decide), c4]
  have a5 : aI h 89 14 (nI s) = some (nI (N_t N s)) := by rw [aI_eq w 89 14 8 rfl s (by omega) (by decide), c5]
  have l1 : aI h k 14 (nI (N_f N s)) = some (y (N_f N s)) := by rw [aI_eq w k 14 16 ek _ (by omega) (by decide), S _ (by omega)]
  have l2 : aI h k 14 (nI (N_t N s)) = some (y (N_t N s)) := by rw [aI_eq w k 14 16 ek _ (by omega) (by decide), S _ (by omega)]
  have ib : fn_X12_isSluice h 86 (nI s) = some 1 := by
    rw [isSluice_eq w, C.2.1, if_neg (nI_pos (by omega)), if_pos]
    obtain ⟨m, em⟩ : ∃ m, N_s N = m + 1 := ⟨N_s N - 1, by omega⟩
    rw [em, nI_pred]
    exact nI_le (by omega) (by omega)
  unfold fn_X12_refusesBoat
  simp only [k_86 w, Option.bind_some, ib, if_neg one0, g_86_4 w, g_86_5 w, a4, a5, l1, l2]
theorem goBoat_eq (hk : k = 87 ∨ k = 99) (w : Wf h) (C : MN N h) (V : NV N) (S : XM h k y) {s : Nat} (hs : s < N_s N) : fn_X12_goBoat h 86 k (nI s) = some (sI (sI h k (N_f N s) (y (N_f N s) - 1)) k (N_t N s) (y (N_t N s) + 1)) := by
  have h6 := V.1
  have h8 := V.2.1
  obtain ⟨f1, f2, f3, f4⟩ := V.2.2.2 s hs
  obtain ⟨c4, c5, c6⟩ := C.2.2.2 s hs
  have ek : SH[k]? = some (14, 16) := by rcases hk with rfl | rfl <;> rfl
  have a4 : aI h 88 14 (nI s) = some (nI (N_f N s)) := by rw [aI_eq w 88 14 8 rfl s (by omega) (by decide), c4]
  have l1 : aI h k 14 (nI (N_f N s)) = some (y (N_f N s)) := by rw [aI_eq w k 14 16 ek _ (by omega) (by decide), S _ (by omega)]
  have w1 : Wf (sI h k (N_f N s) (y (N_f N s) - 1)) := w
  have a5 : aI (sI h k (N_f N s) (y (N_f N s) - 1)) 89 14 (nI s) = some (nI (N_t N s)) := by rw [aI_eq w1 89 14 8 rfl s (by omega) (by decide), hI_sI_r, if_neg (by omega), c5]
  have l2 : aI (sI h k (N_f N s) (y (N_f N s) - 1)) k 14 (nI (N_t N s)) = some (y (N_t N s)) := by rw [aI_eq w1 k 14 16 ek _ (by omega) (by decide), hI_sI, if_neg (fun q => f3 q.2.symm), S _ (by omega)]
  unfold fn_X12_goBoat
  simp only [g_86_4 w, a4, Option.bind_some, l1, wI_eq w k 16 ek _ (show N_f N s < 16 by omega) (by decide), g_86_5 w1, a5, l2, wI_eq w1 k 16 ek _ (show N_t N s < 16 by omega) (by decide)]
theorem btX_VS (V : NV N) {B : Nat} (v : VS N B y) {s : Nat} (hs : s < N_s N) (n0 : ¬ y (N_f N s) = 0) (n9 : ¬ y (N_t N s) = 9) : VS N B (btX N y s) := by
  have h6 := V.1
  obtain ⟨f1, f2, f3, f4⟩ := V.2.2.2 s hs
  obtain ⟨a, ha, ea, -⟩ := v.1 (N_f N s) (by omega)
  obtain ⟨b, hb, eb, -⟩ := v.1 (N_t N s) (by omega)
  have a0 : a ≠ 0 := fun q => n0 (by rw [ea, q]; rfl)
  have b9 : b ≠ 9 := fun q => n9 (by rw [eb, q]; rfl)
  unfold btX
  rw [ea, eb, nI_1, show (nI a - 1 : Int32) = nI (a - 1) from nI_sub (a := a) (b := 1) (by omega)]
  exact VS_lv (VS_lv v f1 h6 (by omega)) f2 h6 (by omega)
end Acts
section Years
variable {N : Net} {sem : Sem} {x : XX} {l : List Int64} {C M : aH}
theorem ius16 (r : Int32) : ∃ u : Nat, u < 65536 ∧ ius r 16 = nI u := by
  obtain ⟨m, hm, rfl⟩ := wb_of32 r
  refine ⟨m / 65536, by omega, ?_⟩
  unfold ius
  show ((UInt32.ofNat m) >>> (Int32.toUInt32 16 &&& Int32.toUInt32 31)).toInt32 = _
  have e : UInt32.ofNat m >>> (Int32.toUInt32 16 &&& Int32.toUInt32 31) = UInt32.ofNat (m / 65536) := by
    apply UInt32.toNat_inj.1
    have h1 : (UInt32.ofNat m).toNat = m := Nat.mod_eq_of_lt hm
    have h2 : (UInt32.ofNat (m / 65536)).toNat = m / 65536 := Nat.mod_eq_of_lt (by omega)
    have h3 : (Int32.toUInt32 16 &&& Int32.toUInt32 31).toNat % 32 = 16 := by decide
    rw [UInt32.toNat_shiftRight, h1, h2, h3, Nat.shiftRight_eq_div_pow]
  rw [e]
  rfl
def drw (r : Int32) : Int32 := (r * 1103515245) + 12345
theorem drawn_eq (h : aH) (q : Int32) : fn_X11_drawn h q = some (drw q) := by
  unfold fn_X11_drawn drw
  rfl
def pk (r : Int32) (n : Nat) : Nat := (ius r 16).toNatClampNeg % n
theorem pk_ok (r : Int32) {n : Nat} (h0 : 0 < n) (hn : n < 100) : irm (ius r 16) (nI n) = some (nI (pk r n)) ∧ pk r n < n := by
  obtain ⟨u, hu, eu⟩ := ius16 r
  have e : pk r n = u % n := by unfold pk; rw [eu, nI_clamp (by omega)]
  rw [e, eu]
  refine ⟨?_, Nat.mod_lt _ h0⟩
  unfold irm
  rw [if_neg (nI_ne0 h0 (by omega)), pk_rem (by omega) h0 (by omega)]
theorem picked_eq (h : aH) (r : Int32) {n : Nat} (h0 : 0 < n) (hn : n < 100) : fn_X11_picked h r (nI n) = some (nI (pk r n)) := by
  unfold fn_X11_picked
  rw [if_neg (nI_nle h0 (by omega)), (pk_ok r h0 hn).1]
  rfl
theorem draw_eq {h : aH} (w : Wf h) {n : Nat} (h0 : 0 < n) (hn : n < 100) : fn_X12_draw h 86 (nI n) = some (nI (pk (drw (hI h 86 45)) n), sI h 86 45 (drw (hI h 86 45))) := by
  have w1 : Wf (sI h 86 45 (drw (hI h 86 45))) := w
  have g1 : gI (sI h 86 45 (drw (hI h 86 45))) 86 11 45 = some (drw (hI h 86 45)) := by rw [w_gI w1 86 11 45 rfl, hI_sI]; simp
  unfold fn_X12_draw
  simp only [w_gI w 86 11 45 rfl, Option.bind_some]
  show ((pI h 86 11 45 (drw (hI h 86 45))).bind _) = _
  rw [w_pI w 86 11 45 _ rfl, Option.bind_some, g1, Option.bind_some, (pk_ok _ h0 hn).1, Option.bind_some]
def s45 (a j : Nat) : Bool := a == 86 && j == 45
theorem s45_sm (a j : Nat) (e : sm a j = false) : s45 a j = false := by
  unfold sm at e
  unfold s45
  simp at e ⊢
  omega
/-- a trial of the reference goes along with a draw -/
theorem RM.draw {k : Nat} {z : ZZ} (r : RM N sem x l k M z) (v : Int32) : Fr sm M (sI M 86 45 v) ∧ RM N sem x l k (sI M 86 45 v) z := by
  have F : Fr s45 M (sI M 86 45 v) := (Fr.refl _ _).sI _ rfl
  have F' := F.mono s45_sm
  obtain ⟨c, ⟨t1, t2, t3, t4⟩, t, V, vs⟩ := r
  exact ⟨F', c.to F', ⟨XM_to (F.row 99 fun _ => rfl) t1, (F.i 86 27 rfl).trans t2, (F.i 86 28 rfl).trans t3, fun i hi => (F.i 100 i rfl).trans (t4 i hi)⟩, t.to F rfl (fun _ => rfl), V, vs⟩
theorem RC.set {k : Nat} {z : ZZ} (r : RC N sem x l k C z) {C1 : aH} {y : XX} (F : Fr (fun a j => a == 29) C C1) (S : St C1 28 y) (v : VS N (MH + k) y) : Fr sc C C1 ∧ RC N sem x l k C1 (y, z.2) := by
  have F' : Fr sc C C1 := F.mono (fun a j e => by unfold sc at e; simp at e ⊢; omega)
  obtain ⟨c, ⟨t1, t2, t3, t4⟩, t, V, vs⟩ := r
  exact ⟨F', c.to F', ⟨S, (F.i 3 8 rfl).trans t2, (F.i 3 9 rfl).trans t3, fun i hi => (F.i 7 i rfl).trans (t4 i hi)⟩, t.to F rfl (fun _ => rfl), V, v⟩
theorem RM.set {k : Nat} {z : ZZ} (r : RM N sem x l k M z) {M1 : aH} {y : XX} (F : Fr (fun a j => a == 99) M M1) (S : XM M1 99 y) (v : VS N (MH + k) y) : Fr sm M M1 ∧ RM N sem x l k M1 (y, z.2) := by
  have F' : Fr sm M M1 := F.mono (fun a j e => by unfold sm at e; simp at e ⊢; omega)
  obtain ⟨c, ⟨t1, t2, t3, t4⟩, t, V, vs⟩ := r
  exact ⟨F', c.to F', ⟨S, (F.i 86 27 rfl).trans t2, (F.i 86 28 rfl).trans t3, fun i hi => (F.i 100 i rfl).trans (t4 i hi)⟩, t.to F rfl (fun _ => rfl), V, v⟩
theorem RC.up {k : Nat} {z : ZZ} (r : RC N sem x l k C z) : RC N sem x l (k + 1) C z := ⟨r.1, r.2.1, r.2.2.1, r.2.2.2.1, VS_mono (by omega) r.2.2.2.2⟩
theorem RM.up {k : Nat} {z : ZZ} (r : RM N sem x l k M z) : RM N sem x l (k + 1) M z := ⟨r.1, r.2.1, r.2.2.1, r.2.2.2.1, VS_mono (by omega) r.2.2.2.2⟩
theorem mab_small : ∀ v, v < 3 → ¬ (mab (1 + nI v) < 1 ∨ ¬ mab (1 + nI v) ≤ 9) := by decide +kernel
def yrG (G : aH → Int32 → Option Int32) (v0 : Nat) (v2 : Int32) (s : Int32 × Int32 × aH) : Option ((Int32 × Int32 × aH) ⊕ ((aH))) :=
  if s.2.1 < v2 then
    (G s.2.2 s.1).bind fun x3 =>
    (fn_X11_picked s.2.2 x3 4).bind fun x4 =>
    if x4 < 2 then
      (gR s.2.2 v0 10 1).bind fun a50 =>
      (gR s.2.2 v0 10 9).bind fun a51 =>
      (gR s.2.2 v0 10 4).bind fun a52 =>
      (ck s.2.2 a50 0).bind fun u53 =>
      (fn_X0_pass s.2.2 a50 a51 a52).bind fun h54 =>
      (some (s.2.1 + 1)).bind fun x55 =>
      some (.inl (x3, x55, h54))
    else
      if x4 = 2 then
        (gR s.2.2 v0 10 1).bind fun a20 =>
        (gI s.2.2 a20 0 0).bind fun x21 =>
        if x21 ≤ 0 then
          if x4 = 3 then
            (gR s.2.2 v0 10 1).bind fun a23 =>
            (gI s.2.2 a23 0 1).bind fun x24 =>
            if x24 ≤ 0 then
              (some (s.2.1 + 1)).bind fun x25 =>
              some (.inl (x3, x25, s.2.2))
            else
              (G s.2.2 x3).bind fun x26 =>
              (gR s.2.2 v0 10 1).bind fun a27 =>
              (gR s.2.2 v0 10 9).bind fun a28 =>
              (gR s.2.2 v0 10 1).bind fun a29 =>
              (gI s.2.2 a29 0 1).bind fun x30 =>
              (fn_X11_picked s.2.2 x26 x30).bind fun x31 =>
              (ck s.2.2 a27 0).bind fun u32 =>
              (fn_X0_carry s.2.2 a27 a28 x31).bind fun o33 =>
              (some (s.2.1 + 1)).bind fun x34 =>
              some (.inl (x26, x34, o33.2))
          else
            (some (s.2.1 + 1)).bind fun x22 =>
            some (.inl (x3, x22, s.2.2))
        else
          (G s.2.2 x3).bind fun x37 =>
          (gR s.2.2 v0 10 1).bind fun a38 =>
          (gI s.2.2 a38 0 0).bind fun x39 =>
          (fn_X11_picked s.2.2 x37 x39).bind fun x40 =>
          (G s.2.2 x37).bind fun x41 =>
          (gR s.2.2 v0 10 1).bind fun a42 =>
          (gR s.2.2 v0 10 9).bind fun a43 =>
          (fn_X11_picked s.2.2 x41 3).bind fun x44 =>
          (ck s.2.2 a42 0).bind fun u45 =>
          (fn_X0_fill s.2.2 a42 a43 x40 (x44 + 1)).bind fun o46 =>
          (some (s.2.1 + 1)).bind fun x47 =>
          some (.inl (x41, x47, o46.2))
      else
        if x4 = 3 then
          (gR s.2.2 v0 10 1).bind fun a6 =>
          (gI s.2.2 a6 0 1).bind fun x7 =>
          if x7 ≤ 0 then
            (some (s.2.1 + 1)).bind fun x8 =>
            some (.inl (x3, x8, s.2.2))
          else
            (G s.2.2 x3).bind fun x9 =>
            (gR s.2.2 v0 10 1).bind fun a10 =>
            (gR s.2.2 v0 10 9).bind fun a11 =>
            (gR s.2.2 v0 10 1).bind fun a12 =>
            (gI s.2.2 a12 0 1).bind fun x13 =>
            (fn_X11_picked s.2.2 x9 x13).bind fun x14 =>
            (ck s.2.2 a10 0).bind fun u15 =>
            (fn_X0_carry s.2.2 a10 a11 x14).bind fun o16 =>
            (some (s.2.1 + 1)).bind fun x17 =>
            some (.inl (x9, x17, o16.2))
        else
          (some (s.2.1 + 1)).bind fun x5 =>
          some (.inl (x3, x5, s.2.2))
  else
    some (.inr s.2.2)
theorem yrG_eq : lb_X11_years_22 = yrG fn_X11_drawn := rfl
/-- what a year's draw does -/
theorem year_eq (G : aH → Int32 → Option Int32) (D : Int32 → Int32) (P : Int32 → Nat → Nat) (hD : ∀ h q, G h q = some (D q)) (hP : ∀ (h : aH) (r : Int32) (n : Nat), 0 < n → n < 100 → fn_X11_picked h r (nI n) = some (nI (P r n))) (hM : ∀ (h : aH) (n : Nat), Wf h → 0 < n → n < 100 → fn_X12_draw h 86 (nI n) = some (nI (P (D (hI h 86 45)) n), sI h 86 45 (D (hI h 86 45)))) (hlt : ∀ (r : Int32) (n : Nat), 0 < n → n < 100 → P r n < n)
    {k : Nat} {z : ZZ} (hk : k < 100000) (rC : RC N sem x l k C z) (rM : RM N sem x l k M z) {r v2 : Int32} {i : Nat} (er : hI M 86 45 = r) (ci : nI i < v2) :
    ∃ r' C1 M1 z', yrG G 0 v2 (r, nI i, C) = some (.inl (r', nI (i + 1), C1)) ∧ lb_X12_years_40 86 v2 (nI i, M) = some (.inl (nI (i + 1), M1)) ∧ hI M1 86 45 = r' ∧ Fr sc C C1 ∧ Fr sm M M1 ∧ RC N sem x l (k + 1) C1 z' ∧ RM N sem x l (k + 1) M1 z' := by
  have V := rC.2.2.2.1
  have h6 := V.1
  have h8 := V.2.1
  have d4 := hM _ (4) rM.w (by decide) (by decide)
  rw [er] at d4
  have d4' : fn_X12_draw M 86 4 = some (nI (P (D r) 4), sI M 86 45 (D r)) := d4
  obtain ⟨FD, rD⟩ := rM.draw (D r)
  have eD : hI (sI M 86 45 (D r)) 86 45 = D r := by rw [hI_sI]; simp
  have plt := hlt (D r) (4) (by decide) (by decide)
  have p4 : fn_X11_picked C (D r) 4 = some (nI (P (D r) 4)) := hP C (D r) (4) (by decide) (by decide)
  have gC0 : gI C 3 0 0 = some (nI (N_b N)) := by rw [w_gI rC.w 3 0 0 rfl, rC.1.2.1.1]
  have gC1 : gI C 3 0 1 = some (nI (N_s N)) := by rw [w_gI rC.w 3 0 1 rfl, rC.1.2.1.2.1]
  have gM1 : ∀ {M : aH} {z : ZZ}, RM N sem x l k M z → gI M 86 11 1 = some (nI (N_b N)) := fun r => by rw [w_gI r.w 86 11 1 rfl, r.1.2.1.1]
  have gM2 : ∀ {M : aH} {z : ZZ}, RM N sem x l k M z → gI M 86 11 2 = some (nI (N_s N)) := fun r => by rw [w_gI r.w 86 11 2 rfl, r.1.2.1.2.1]
  generalize P (D r) 4 = p at d4' plt p4
  have cases4 : p = 0 ∨ p = 1 ∨ p = 2 ∨ p = 3 := by omega
  have lt2 : p < 2 ∨ p = 2 ∨ p = 3 := by omega
  rcases lt2 with hp | hp | hp
  · -- an hour
    obtain ⟨C1, f1, G1, r1⟩ := rC.pass
    obtain ⟨M1, g1, H1, q1⟩ := rD.pass hk
    have c1 : nI p < 2 := nI_lt (b := 2) hp (by decide)
    have c2 : ¬ nI p = 2 := fun q => by have := (nI_eq (b := 2) (by omega) (by decide)).mp q; omega
    have c3 : ¬ nI p = 3 := fun q => by have := (nI_eq (b := 3) (by omega) (by decide)).mp q; omega
    have e45 : hI M1 86 45 = D r := by
      obtain ⟨T, g1', F1', -⟩ := goHour_eq (z := z) (Or.inr rfl) rD.w rD.1.2.1 V rD.1.2.2.2 rD.2.2.2.2 (by unfold MH; omega) rD.2.1
      rw [g1] at g1'
      cases g1'
      rw [F1'.i 86 45 rfl, eD]
    refine ⟨D r, C1, M1, _, ?_, ?_, e45, G1, FD.trans H1, r1, q1⟩
    · unfold yrG
      dsimp only
      rw [if_pos ci, hD, Option.bind_some, p4, Option.bind_some, if_pos c1]
      simp only [Option.bind_some, g_0_1 rC.w, g_0_9 rC.w, g_0_4 rC.w, k_3 rC.w, f1, nI_1]
    · unfold lb_X12_years_40
      simp only [if_pos ci, k_86 rM.w, Option.bind_some, d4', if_pos c1, g_86_26 rD.w, k_86 rD.w, g1, if_neg c2, if_neg c3, nI_1]
  · -- water
    subst hp
    have c1 : ¬ nI 2 < 2 := by decide
    have c2 : nI 2 = 2 := rfl
    have c1' : ¬ (2 : Int32) < 2 := by decide
    have c3 : ¬ (2 : Int32) = 3 := by decide
    have c3' : ¬ nI 2 = 3 := by decide
    by_cases b0 : N_b N = 0
    · have bz : nI (N_b N) ≤ 0 := by rw [b0]; decide
      refine ⟨D r, C, sI M 86 45 (D r), z, ?_, ?_, eD, Fr.refl _ _, FD, rC.up, rD.up⟩
      · unfold yrG
        dsimp only
        rw [if_pos ci, hD, Option.bind_some, p4, Option.bind_some, if_neg c1, if_pos c2]
        simp only [Option.bind_some, g_0_1 rC.w, gC0, if_pos bz, if_neg c3', nI_1]
      · unfold lb_X12_years_40
        simp only [if_pos ci, k_86 rM.w, Option.bind_some, d4', if_neg c1', c2, if_true, gM1 rD, if_pos bz, if_neg c3, nI_1]
    · have bz : ¬ nI (N_b N) ≤ 0 := nI_nle (by omega) (by omega)
      have db := hM _ (N_b N) rD.w (by omega) (by omega)
      rw [eD] at db
      obtain ⟨FE, rE⟩ := rD.draw (D (D r))
      have eE : hI (sI (sI M 86 45 (D r)) 86 45 (D (D r))) 86 45 = D (D r) := by rw [hI_sI]; simp
      have d3 := hM _ (3) rE.w (by decide) (by decide)
      rw [eE] at d3
      have d3' : fn_X12_draw (sI (sI M 86 45 (D r)) 86 45 (D (D r))) 86 3 = _ := d3
      obtain ⟨FF, rF⟩ := rE.draw (D (D (D r)))
      have eF : hI (sI (sI (sI M 86 45 (D r)) 86 45 (D (D r))) 86 45 (D (D (D r)))) 86 45 = D (D (D r)) := by rw [hI_sI]; simp
      obtain ⟨Mf, eMf⟩ : ∃ Mf, Mf = sI (sI (sI M 86 45 (D r)) 86 45 (D (D r))) 86 45 (D (D (D r))) := ⟨_, rfl⟩
      rw [← eMf] at FF rF eF d3'
      have pb := hlt (D (D r)) (N_b N) (by omega) (by omega)
      have p3 := hlt (D (D (D r))) (3) (by decide) (by decide)
      have pcb := hP C (D (D r)) (N_b N) (by omega) (by omega)
      have pc3 : fn_X11_picked C (D (D (D r))) 3 = some (nI (P (D (D (D r))) 3)) := hP C _ (3) (by decide) (by decide)
      generalize P (D (D r)) (N_b N) = b at db pb pcb
      generalize P (D (D (D r))) 3 = a at d3' p3 pc3
      have fl := fillC_eq (Or.inr rfl) rC.w rC.2.1.1 (show b < 6 by omega) (nI a + 1)
      have rw' := refWater_eq (Or.inr rfl) rF.w rF.1.2.1 V rF.2.1.1 pb (1 + nI a)
      have e1a : (1 : Int32) + nI a = nI (a + 1) := by rw [Int32.add_comm, nI_1]
      rw [if_neg (mab_small a p3), e1a] at rw'
      rw [nI_1] at fl
      obtain ⟨yv, hyv, eyv, -⟩ := rC.2.2.2.2.1 b (by omega)
      have l1 : aI Mf 99 14 (nI b) = some (z.1 b) := by rw [aI_eq rF.w 99 14 16 rfl b (by omega) (by decide)]; exact congrArg some (rF.2.1.1 b (by omega))
      by_cases c9 : z.1 b + nI (a + 1) ≤ 9
      · have n0 : ¬ z.1 b + nI (a + 1) < 0 := by rw [eyv, nI_add]; exact nI_pos (by omega)
        have v9 : yv + (a + 1) ≤ 9 := by
          rw [eyv, nI_add] at c9
          exact (nI_leI (b := 9) (by omega) (by decide)).mp c9
        rw [if_pos c9] at fl
        rw [if_neg (by simp [n0, c9])] at rw'
        have vs : VS N (MH + k) (va_up z.1 b (z.1 b + nI (a + 1))) := by rw [eyv, nI_add]; exact VS_lv rC.2.2.2.2 pb h6 v9
        obtain ⟨FC, rC'⟩ := rC.set (C1 := sI C 29 b (z.1 b + nI (a + 1))) ((Fr.refl _ _).sI _ rfl) (St_set rC.2.1.1 (by omega) _) vs
        obtain ⟨FM, rM'⟩ := rF.set (M1 := sI Mf 99 b (z.1 b + nI (a + 1))) ((Fr.refl _ _).sI _ rfl) (XM_up rF.2.1.1 _ _) vs
        refine ⟨D (D (D r)), _, _, _, ?_, ?_, ?_, FC, FD.trans (FE.trans (FF.trans FM)), rC'.up, rM'.up⟩
        · unfold yrG
          dsimp only
          rw [if_pos ci, hD, Option.bind_some, p4, Option.bind_some, if_neg c1, if_pos c2]
          simp only [Option.bind_some, g_0_1 rC.w, gC0, if_neg bz, g_0_9 rC.w, k_3 rC.w, nI_1]
          rw [hD, Option.bind_some, pcb, Option.bind_some, hD, Option.bind_some, pc3, Option.bind_some, nI_1, fl, Option.bind_some]
        · unfold lb_X12_years_40
          simp only [if_pos ci, k_86 rM.w, Option.bind_some, d4', if_neg c1', c2, if_true, gM1 rD, if_neg bz, k_86 rD.w, db, k_86 rE.w, d3', e1a, g_86_26 rF.w, k_86 rF.w, rw', l1, wI_eq rF.w 99 16 rfl b (show b < 16 by omega) (by decide), if_neg c3, nI_1]
        · rw [hI_sI_r, if_neg (by decide)]; exact eF
      · rw [if_neg c9] at fl
        rw [if_pos (Or.inr c9)] at rw'
        refine ⟨D (D (D r)), C, Mf, z, ?_, ?_, eF, Fr.refl _ _, FD.trans (FE.trans FF), rC.up, rF.up⟩
        · unfold yrG
          dsimp only
          rw [if_pos ci, hD, Option.bind_some, p4, Option.bind_some, if_neg c1, if_pos c2]
          simp only [Option.bind_some, g_0_1 rC.w, gC0, if_neg bz, g_0_9 rC.w, k_3 rC.w, nI_1]
          rw [hD, Option.bind_some, pcb, Option.bind_some, hD, Option.bind_some, pc3, Option.bind_some, nI_1, fl, Option.bind_some]
        · unfold lb_X12_years_40
          simp only [if_pos ci, k_86 rM.w, Option.bind_some, d4', if_neg c1', c2, if_true, gM1 rD, if_neg bz, k_86 rD.w, db, k_86 rE.w, d3', e1a, g_86_26 rF.w, k_86 rF.w, rw', if_neg (show ¬ (-2 : Int32) = 0 by decide), if_neg c3, nI_1]
  · -- a boat
    subst hp
    have c1 : ¬ nI 3 < 2 := by decide
    have c2 : ¬ nI 3 = 2 := by decide
    have c3 : nI 3 = 3 := rfl
    by_cases s0 : N_s N = 0
    · have sz : nI (N_s N) ≤ 0 := by rw [s0]; decide
      refine ⟨D r, C, sI M 86 45 (D r), z, ?_, ?_, eD, Fr.refl _ _, FD, rC.up, rD.up⟩
      · unfold yrG
        dsimp only
        rw [if_pos ci, hD, Option.bind_some, p4, Option.bind_some, if_neg c1, if_neg c2, if_pos c3]
        simp only [Option.bind_some, g_0_1 rC.w, gC1, if_pos sz, nI_1]
      · unfold lb_X12_years_40
        simp only [if_pos ci, k_86 rM.w, Option.bind_some, d4', if_neg c1, if_neg c2, if_pos c3, gM2 rD, if_pos sz, nI_1]
    · have sz : ¬ nI (N_s N) ≤ 0 := nI_nle (by omega) (by omega)
      have ds := hM _ (N_s N) rD.w (by omega) (by omega)
      rw [eD] at ds
      obtain ⟨FE, rE⟩ := rD.draw (D (D r))
      have eE : hI (sI (sI M 86 45 (D r)) 86 45 (D (D r))) 86 45 = D (D r) := by rw [hI_sI]; simp
      obtain ⟨Me, eMe⟩ : ∃ Me, Me = sI (sI M 86 45 (D r)) 86 45 (D (D r)) := ⟨_, rfl⟩
      rw [← eMe] at FE rE eE ds
      have ps := hlt (D (D r)) (N_s N) (by omega) (by omega)
      have pcs := hP C (D (D r)) (N_s N) (by omega) (by omega)
      generalize P (D (D r)) (N_s N) = s at ds ps pcs
      have ca := carryC_eq (Or.inr rfl) rC.w rC.1.2.1 V rC.2.1.1 ps
      have rb := refBoat_eq (Or.inr rfl) rE.w rE.1.2.1 V rE.2.1.1 ps
      have gb := goBoat_eq (Or.inr rfl) rE.w rE.1.2.1 V rE.2.1.1 ps
      have front : ∀ C1 o, fn_X0_carry C 3 28 (nI s) = some (o, C1) → yrG G 0 v2 (r, nI i, C) = some (.inl (D (D r), nI (i + 1), C1)) := fun C1 o e => by
        unfold yrG
        dsimp only
        rw [if_pos ci, hD, Option.bind_some, p4, Option.bind_some, if_neg c1, if_neg c2, if_pos c3]
        simp only [Option.bind_some, g_0_1 rC.w, gC1, if_neg sz, g_0_9 rC.w, k_3 rC.w, nI_1]
        rw [hD, Option.bind_some, pcs, Option.bind_some, e, Option.bind_some]
      by_cases n0 : z.1 (N_f N s) = 0
      · rw [if_pos n0] at ca rb
        refine ⟨D (D r), C, Me, z, front _ _ ca, ?_, eE, Fr.refl _ _, FD.trans FE, rC.up, rE.up⟩
        unfold lb_X12_years_40
        simp only [if_pos ci, k_86 rM.w, Option.bind_some, d4', if_neg c1, if_neg c2, if_pos c3, gM2 rD, if_neg sz, k_86 rD.w, ds, g_86_26 rE.w, k_86 rE.w, rb, if_neg (show ¬ (-2 : Int32) = 0 by decide), nI_1]
      · by_cases n9 : z.1 (N_t N s) = 9
        · rw [if_neg n0, if_pos n9] at ca rb
          refine ⟨D (D r), C, Me, z, front _ _ ca, ?_, eE, Fr.refl _ _, FD.trans FE, rC.up, rE.up⟩
          unfold lb_X12_years_40
          simp only [if_pos ci, k_86 rM.w, Option.bind_some, d4', if_neg c1, if_neg c2, if_pos c3, gM2 rD, if_neg sz, k_86 rD.w, ds, g_86_26 rE.w, k_86 rE.w, rb, if_neg (show ¬ (-2 : Int32) = 0 by decide), nI_1]
        · rw [if_neg n0, if_neg n9] at ca rb
          have vs := btX_VS V rC.2.2.2.2 ps n0 n9
          obtain ⟨FC, rC'⟩ := rC.set (C1 := sI (sI C 29 (N_f N s) (z.1 (N_f N s) - 1)) 29 (N_t N s) (z.1 (N_t N s) + 1)) (((Fr.refl _ _).sI _ rfl).sI _ rfl) (St_boat (Or.inr rfl) V rC.2.1.1 ps) vs
          obtain ⟨FM, rM'⟩ := rE.set (M1 := sI (sI Me 99 (N_f N s) (z.1 (N_f N s) - 1)) 99 (N_t N s) (z.1 (N_t N s) + 1)) (((Fr.refl _ _).sI _ rfl).sI _ rfl) (XM_up (XM_up rE.2.1.1 _ _) _ _) vs
          refine ⟨D (D r), _, _, _, front _ _ ca, ?_, ?_, FC, FD.trans (FE.trans FM), rC'.up, rM'.up⟩
          · unfold lb_X12_years_40
            simp only [if_pos ci, k_86 rM.w, Option.bind_some, d4', if_neg c1, if_neg c2, if_pos c3, gM2 rD, if_neg sz, k_86 rD.w, ds, g_86_26 rE.w, k_86 rE.w, rb, if_true, gb, nI_1]
          · rw [hI_sI_r, if_neg (by decide), hI_sI_r, if_neg (by decide)]; exact eE
theorem q_years (w : WW N sem x l C M) (sd n : Int32) : QR (fn_X11_years C 0 sd n) (fn_X12_years M 86 sd n) C M := by
  obtain ⟨M1, p1, F1, w1⟩ := w.thr
  have wc := w1.wc
  have wm := w1.wm
  have no : ∀ {oM} (r : Int32), fn_X11_years C 0 sd n = some (r, C) → oM = some (r, M1) → QR (fn_X11_years C 0 sd n) oM C M := fun r e1 e2 => w1.qr r e1 e2 (Fr.refl _ _) F1
  by_cases c1 : n < 1
  · refine no (-1) ?_ ?_
    · unfold fn_X11_years; simp only [if_pos c1]
    · unfold fn_X12_years; simp only [p1, Option.bind_some, in_no (Or.inl c1), if_true]
  by_cases c2 : ¬ n ≤ 60
  · refine no (-1) ?_ ?_
    · unfold fn_X11_years; simp only [if_neg c1, if_neg c2]
    · unfold fn_X12_years; simp only [p1, Option.bind_some, in_no (Or.inr ⟨c1, c2⟩), if_true]
  have c2 := Decidable.not_not.mp c2
  have n0 : ¬ n < 0 := fun q => c1 (by
    have a := Int32.lt_iff_toInt_lt.mp q
    apply Int32.lt_iff_toInt_lt.mpr
    have : (1 : Int32).toInt = 1 := by decide
    have : (0 : Int32).toInt = 0 := by decide
    omega)
  obtain ⟨m, hm, rfl⟩ := nI_of2 (x := n) (M := 60) (n := 60) (by decide) n0 c2
  obtain ⟨C1, f1, G1, r1⟩ := RC.start w1.1 w1.2.2.1 w.v w.2.2.2.2.2
  have FS : Fr s45 M1 (sI M1 86 45 sd) := (Fr.refl _ _).sI _ rfl
  have ws := w1.toM FS s45_sm rfl (fun _ => rfl)
  obtain ⟨M2, M3, g2, wf2, g3, H3, q3⟩ := RM.then ws.2.1 ws.2.2.2.1 w.v w.2.2.2.2.2
  have e45 : hI M3 86 45 = sd := by
    obtain ⟨f, gl, -⟩ := layThen_eq ws.wm ws.2.1.2.2.1
    rw [g2] at gl
    cases gl
    obtain ⟨T, gT, FT, -⟩ := clearM_eq wf2 99
    rw [g3] at gT
    cases gT
    rw [FT.i 86 45 rfl, hI_rI, if_neg (by decide), hI_sI]
    simp
  obtain ⟨r, q, er, eq, z', Gr, Hq, rr, rq⟩ : ∃ r q, lp (yrG fn_X11_drawn 0 (nI m)) lpN (sd, 0, C1) = some r ∧ lp (lb_X12_years_40 86 (nI m)) lpN (0, M3) = some q ∧ (∃ z, Fr sc C r ∧ Fr sm M q ∧ RC N sem x l m r z ∧ RM N sem x l m q z) := by
    refine lp_two (fun i s t => s.2.1 = nI i ∧ t.1 = nI i ∧ hI t.2 86 45 = s.1 ∧ Fr sc C s.2.2 ∧ Fr sm M t.2 ∧ ∃ z, RC N sem x l i s.2.2 z ∧ RM N sem x l i t.2 z) _ m (by omega) ?_ ?_ ⟨rfl, rfl, e45, G1, F1.trans ((FS.mono s45_sm).trans H3), _, r1, q3⟩
    · rintro i ⟨s1, s2, Ci⟩ ⟨t1, Mi⟩ hi ⟨rfl, rfl, e, GC, GM, z, rC, rM⟩
      dsimp only at e GC GM rC rM
      obtain ⟨r', C2, M2, z', h1, h2, h3, h4, h5, h6, h7⟩ := year_eq fn_X11_drawn drw pk drawn_eq (fun h r n h0 hn => picked_eq h r h0 hn) (fun h n w h0 hn => draw_eq w h0 hn) (fun r n h0 hn => (pk_ok r h0 hn).2) (by omega) rC rM e (nI_lt hi (show m < 2 ^ 31 by omega))
      exact Or.inl ⟨_, _, h1, h2, rfl, rfl, h3, GC.trans h4, GM.trans h5, z', h6, h7⟩
    · rintro ⟨s1, s2, Ci⟩ ⟨t1, Mi⟩ ⟨rfl, rfl, e, GC, GM, z, rC, rM⟩
      have ci : ¬ nI m < nI m := nI_nlt (Nat.le_refl _) (by omega)
      refine ⟨Ci, Mi, ?_, ?_, z, GC, GM, rC, rM⟩
      · unfold yrG; rw [if_neg ci]
      · unfold lb_X12_years_40; rw [if_neg ci]
  obtain ⟨C3, f3, G3, r3⟩ := rr.begin
  obtain ⟨C4, f4, G4, r4⟩ := r3.add (by decide) (Int32.toInt64 z'.2.1)
  obtain ⟨C5, f5, G5, r5⟩ := r4.add (by simp) (Int32.toInt64 z'.2.2.1)
  obtain ⟨M4, g4, H4, q4⟩ := rq.begin
  obtain ⟨M5, g5, H5, q5⟩ := q4.tell (by decide) (Int32.toInt64 z'.2.1)
  obtain ⟨M6, g6, H6, q6⟩ := q5.tell (by simp) (Int32.toInt64 z'.2.2.1)
  have a3 : gI C3 3 0 8 = some z'.2.1 := by rw [w_gI r3.w 3 0 8 rfl, r3.2.1.2.1]
  have a4 : gI C4 3 0 9 = some z'.2.2.1 := by rw [w_gI r4.w 3 0 9 rfl, r4.2.1.2.2.1]
  have b4 : gI M4 86 11 27 = some z'.2.1 := by rw [w_gI q4.w 86 11 27 rfl, q4.2.1.2.1]
  have b5 : gI M5 86 11 28 = some z'.2.2.1 := by rw [w_gI q5.w 86 11 28 rfl, q5.2.1.2.2.1]
  have sC := together_eq r5.w r5.1.2.1 w.v (Or.inr rfl) r5.2.1.1
  have sM := sumOf0_eq q6.w q6.1.2.1 w.v (Or.inr rfl) q6.2.1.1
  refine ⟨sumI (N_b N) z'.1, C5, M6, _, ?_, ?_, Gr.trans (G3.trans (G4.trans G5)), Hq.trans (H4.trans (H5.trans H6)), r5.2.2.1, q6.2.2.1⟩
  · unfold fn_X11_years
    rw [yrG_eq]
    simp only [if_neg c1, if_pos c2, k_0 wc, Option.bind_some, f1, er, g_0_11 rr.w, k_77 rr.w, f3, g_0_11 r3.w, g_0_1 r3.w, a3, k_77 r3.w, f4, g_0_11 r4.w, g_0_1 r4.w, a4, k_77 r4.w, f5, g_0_9 r5.w, k_0 r5.w, sC]
  · unfold fn_X12_years
    simp only [p1, Option.bind_some, in_yes c1 c2, if_neg one0, w_pI wm 86 11 45 _ rfl, g_86_0 ws.wm, g_86_26 ws.wm, g2, k_86 wf2, g3, eq, g4, b4, k_86 q4.w, g5, b5, k_86 q5.w, g6, g_86_26 q6.w, k_86 q6.w, sM]
end Years
