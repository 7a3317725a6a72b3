/-! how many bits a long has -/
theorem and_lane (a b c d : Nat) (hb : b < 256) (hd : d < 256) : (256 * a + b) &&& (256 * c + d) = 256 * (a &&& c) + (b &&& d) := by
  apply Nat.eq_of_testBit_eq
  intro i
  have e : ∀ u v : Nat, v < 256 → ∀ i, (256 * u + v).testBit i = if i < 8 then v.testBit i else u.testBit (i - 8) := fun u v hv i => Nat.testBit_two_pow_mul_add (i := 8) u hv i
  have hbd : b &&& d < 256 := Nat.lt_of_le_of_lt Nat.and_le_left hb
  rw [Nat.testBit_and, e a b hb, e c d hd, e (a &&& c) (b &&& d) hbd]
  by_cases h : i < 8
  · simp [h, Nat.testBit_and]
  · simp [h, Nat.testBit_and]
/-- a mask of n bytes m -/
def msk (m : Nat) : Nat → Nat
  | 0 => 0
  | n + 1 => 256 * msk m n + m
def pa1 (n w : Nat) : Nat := w - ((w / 2) &&& msk 85 n)
def pa2 (n w : Nat) : Nat := (w &&& msk 51 n) + ((w / 4) &&& msk 51 n)
def pa3 (n w : Nat) : Nat := (w + w / 16) &&& msk 15 n
def tb (d : Nat) : Nat := pa3 1 (pa2 1 (pa1 1 d))
/-- every byte small in both halves -/
def smallB (m : Nat) : Nat → Nat → Prop
  | 0, w => w = 0
  | n + 1, w => (w % 256 % 16 ≤ m ∧ w % 256 / 16 ≤ m) ∧ smallB m n (w / 256)
theorem t_a1 : ∀ d, d < 256 → (d / 2) &&& 85 ≤ d ∧ (d / 2 + 128) &&& 85 = (d / 2) &&& 85 := by decide +kernel
theorem t_a2 : ∀ d, d < 256 → (∀ k, k < 4 → (d / 4 + 64 * k) &&& 51 = (d / 4) &&& 51) ∧ (d &&& 51) + ((d / 4) &&& 51) < 256 ∧ pa1 1 d < 256 := by decide +kernel
theorem t_a3 : ∀ d, d < 256 → (pa2 1 (pa1 1 d)) % 16 ≤ 4 ∧ (pa2 1 (pa1 1 d)) / 16 ≤ 4 ∧ pa2 1 (pa1 1 d) < 256 := by decide +kernel
theorem t_a4 : ∀ d, d < 69 → d % 16 ≤ 4 → ∀ k, k < 5 → (d + d / 16 + 16 * k) % 256 &&& 15 = pa3 1 d ∧ d + d / 16 + 16 * k < 256 := by decide +kernel
theorem pa1_lane (n hi d : Nat) (hd : d < 256) : pa1 (n + 1) (256 * hi + d) = 256 * pa1 n hi + pa1 1 d := by
  obtain ⟨h1, h2⟩ := t_a1 d hd
  have e : (256 * hi + d) / 2 = 256 * (hi / 2) + (d / 2 + 128 * (hi % 2)) := by omega
  have hlt : d / 2 + 128 * (hi % 2) < 256 := by omega
  have e2 : (d / 2 + 128 * (hi % 2)) &&& 85 = (d / 2) &&& 85 := by
    rcases Nat.mod_two_eq_zero_or_one hi with h | h
    · rw [h, Nat.mul_zero, Nat.add_zero]
    · rw [h]; exact h2
  have le : (hi / 2) &&& msk 85 n ≤ hi := Nat.le_trans Nat.and_le_left (Nat.div_le_self _ _)
  unfold pa1
  show 256 * hi + d - (((256 * hi + d) / 2) &&& (256 * msk 85 n + 85)) = 256 * (hi - _) + (d - ((d / 2) &&& (256 * 0 + 85)))
  rw [e, and_lane _ _ _ _ hlt (by decide), e2]
  generalize (hi / 2) &&& msk 85 n = u at le
  generalize (d / 2) &&& 85 = t at h1
  show _ = 256 * (hi - u) + (d - t)
  omega
theorem pa2_lane (n hi d : Nat) (hd : d < 256) : pa2 (n + 1) (256 * hi + d) = 256 * pa2 n hi + pa2 1 d := by
  obtain ⟨h1, h2, -⟩ := t_a2 d hd
  have e : (256 * hi + d) / 4 = 256 * (hi / 4) + (d / 4 + 64 * (hi % 4)) := by omega
  have hlt : d / 4 + 64 * (hi % 4) < 256 := by omega
  have e2 := h1 (hi % 4) (Nat.mod_lt _ (by decide))
  unfold pa2
  show ((256 * hi + d) &&& (256 * msk 51 n + 51)) + (((256 * hi + d) / 4) &&& (256 * msk 51 n + 51)) = 256 * (_ + _) + ((d &&& 51) + ((d / 4) &&& 51))
  rw [e, and_lane _ _ _ _ hlt (by decide), and_lane _ _ _ _ hd (by decide), e2]
  omega
theorem pa3_lane (n hi d : Nat) (hd : d < 69) (h4 : d % 16 ≤ 4) (hl : hi % 16 ≤ 4) : pa3 (n + 1) (256 * hi + d) = 256 * pa3 n hi + pa3 1 d := by
  obtain ⟨h1, h2⟩ := t_a4 d hd h4 (hi % 16) (by omega)
  have e : 256 * hi + d + (256 * hi + d) / 16 = 256 * (hi + hi / 16) + (d + d / 16 + 16 * (hi % 16)) := by omega
  unfold pa3
  show ((256 * hi + d + (256 * hi + d) / 16) &&& (256 * msk 15 n + 15)) = 256 * _ + _
  rw [e, and_lane _ _ _ _ h2 (by decide)]
  rw [Nat.mod_eq_of_lt h2] at h1
  rw [h1]
  rfl
/-- the bytes' counts, one beside another -/
def tbs : Nat → Nat → Nat
  | 0, _ => 0
  | n + 1, w => 256 * tbs n (w / 256) + tb (w % 256)
theorem pa12_low : ∀ (n w : Nat), w < 256 ^ n → (pa2 n (pa1 n w)) % 16 ≤ 4
  | 0, w, h => by
    have : w = 0 := by simpa using h
    subst this
    decide
  | n + 1, w, h => by
    have hd : w % 256 < 256 := Nat.mod_lt _ (by decide)
    have hw : w = 256 * (w / 256) + w % 256 := by omega
    have e : pa2 (n + 1) (pa1 (n + 1) w) = 256 * pa2 n (pa1 n (w / 256)) + pa2 1 (pa1 1 (w % 256)) := by
      conv => lhs; rw [hw]
      rw [pa1_lane _ _ _ hd, pa2_lane _ _ _ (t_a2 _ hd).2.2]
    rw [e]
    have := (t_a3 _ hd).1
    omega
theorem swar : ∀ (n w : Nat), w < 256 ^ n → pa3 n (pa2 n (pa1 n w)) = tbs n w
  | 0, w, h => by
    have : w = 0 := by simpa using h
    subst this
    decide
  | n + 1, w, h => by
    have hd : w % 256 < 256 := Nat.mod_lt _ (by decide)
    have hw : w = 256 * (w / 256) + w % 256 := by omega
    have hq : w / 256 < 256 ^ n := by
      rw [Nat.pow_succ] at h
      exact Nat.div_lt_of_lt_mul (by rw [Nat.mul_comm]; exact h)
    have e : pa2 (n + 1) (pa1 (n + 1) w) = 256 * pa2 n (pa1 n (w / 256)) + pa2 1 (pa1 1 (w % 256)) := by
      conv => lhs; rw [hw]
      rw [pa1_lane _ _ _ hd, pa2_lane _ _ _ (t_a2 _ hd).2.2]
    obtain ⟨a1, a2, a3⟩ := t_a3 _ hd
    rw [e, pa3_lane _ _ _ (by omega) a1 (pa12_low n _ hq), swar n _ hq]
    rfl
theorem tb_le : ∀ d, d < 256 → tb d ≤ 8 := by decide +kernel
def pcN (w : Nat) : Nat := tb (w % 256) + tb (w / 256 % 256) + tb (w / 256 / 256 % 256) + tb (w / 256 / 256 / 256 % 256) + tb (w / 256 / 256 / 256 / 256 % 256) + tb (w / 256 / 256 / 256 / 256 / 256 % 256) + tb (w / 256 / 256 / 256 / 256 / 256 / 256 % 256) + tb (w / 256 / 256 / 256 / 256 / 256 / 256 / 256 % 256)
theorem fold8 (b0 b1 b2 b3 b4 b5 b6 b7 t1 t2 t3 t4 t5 t6 y : Nat) (h0 : b0 ≤ 8) (h1 : b1 ≤ 8) (h2 : b2 ≤ 8) (h3 : b3 ≤ 8) (h4 : b4 ≤ 8) (h5 : b5 ≤ 8) (h6 : b6 ≤ 8) (h7 : b7 ≤ 8)
    (e6 : t6 = 256 * b7 + b6) (e5 : t5 = 256 * t6 + b5) (e4 : t4 = 256 * t5 + b4) (e3 : t3 = 256 * t4 + b3) (e2 : t2 = 256 * t3 + b2) (e1 : t1 = 256 * t2 + b1) (e0 : y = 256 * t1 + b0) :
    y / 256 = t1 ∧ (y + t1) / 65536 = t2 + t3 ∧ (y + t1 + (t2 + t3)) / 4294967296 = t4 + t5 + t6 + b7 ∧ (y + t1 + (t2 + t3) + (t4 + t5 + t6 + b7)) % 128 = b0 + b1 + b2 + b3 + b4 + b5 + b6 + b7 ∧ y + t1 + (t2 + t3) + (t4 + t5 + t6 + b7) < 2 ^ 62 := by
  have B6 : t6 ≤ 2056 := by omega
  have B5 : t5 ≤ 526344 := by omega
  have B4 : t4 ≤ 134744072 := by omega
  have B3 : t3 ≤ 34494482440 := by omega
  have B2 : t2 ≤ 8830587504648 := by omega
  have B1 : t1 ≤ 2260630401189896 := by omega
  have B0 : y ≤ 578721382704613384 := by omega
  have y2 : y = 65536 * t2 + (256 * b1 + b0) := by omega
  have t12 : t1 = 65536 * t3 + (256 * b2 + b1) := by omega
  have y4 : y = 4294967296 * t4 + (16777216 * b3 + 65536 * b2 + 256 * b1 + b0) := by omega
  have t14 : t1 = 4294967296 * t5 + (16777216 * b4 + 65536 * b3 + 256 * b2 + b1) := by omega
  have t24 : t2 = 4294967296 * t6 + (16777216 * b5 + 65536 * b4 + 256 * b3 + b2) := by omega
  have t34 : t3 = 4294967296 * b7 + (16777216 * b6 + 65536 * b5 + 256 * b4 + b3) := by omega
  refine ⟨?_, ?_, ?_, ?_, ?_⟩
  · clear y2 t12 y4 t14 t24 t34 e6 e5 e4 e3 e2 e1; omega
  · clear y4 t14 t24 t34 e6 e5 e4 e3 e2 e1 e0; omega
  · clear y2 t12 e6 e5 e4 e3 e2 e1 e0; omega
  · clear y2 t12 y4 t14 t24 t34
    have : y + t1 + (t2 + t3) + (t4 + t5 + t6 + b7) = 256 * (t1 + t2 + t3 + t4 + t5 + t6 + b7) + (b0 + b1 + b2 + b3 + b4 + b5 + b6 + b7) := by omega
    rw [this]
    generalize t1 + t2 + t3 + t4 + t5 + t6 + b7 = z
    omega
  · clear y2 t12 y4 t14 t24 t34 e6 e5 e4 e3 e2 e1 e0; omega
theorem tbs_fold (w : Nat) : ∃ a b c, tbs 8 w / 256 = a ∧ (tbs 8 w + a) / 65536 = b ∧ (tbs 8 w + a + b) / 4294967296 = c ∧ (tbs 8 w + a + b + c) % 128 = pcN w ∧ tbs 8 w + a + b + c < 2 ^ 62 := by
  have tl : ∀ z, tb (z % 256) ≤ 8 := fun z => tb_le _ (Nat.mod_lt _ (by decide))
  have e6 : tbs 2 (w / 256 / 256 / 256 / 256 / 256 / 256) = 256 * tb (w / 256 / 256 / 256 / 256 / 256 / 256 / 256 % 256) + tb (w / 256 / 256 / 256 / 256 / 256 / 256 % 256) := by
    show 256 * (256 * 0 + tb _) + tb _ = _
    rw [Nat.mul_zero, Nat.zero_add]
  obtain ⟨f4, f5, f6, fr, g6⟩ := fold8 (tb (w % 256)) (tb (w / 256 % 256)) (tb (w / 256 / 256 % 256)) (tb (w / 256 / 256 / 256 % 256)) (tb (w / 256 / 256 / 256 / 256 % 256)) (tb (w / 256 / 256 / 256 / 256 / 256 % 256)) (tb (w / 256 / 256 / 256 / 256 / 256 / 256 % 256)) (tb (w / 256 / 256 / 256 / 256 / 256 / 256 / 256 % 256))
    (tbs 7 (w / 256)) (tbs 6 (w / 256 / 256)) (tbs 5 (w / 256 / 256 / 256)) (tbs 4 (w / 256 / 256 / 256 / 256)) (tbs 3 (w / 256 / 256 / 256 / 256 / 256)) (tbs 2 (w / 256 / 256 / 256 / 256 / 256 / 256)) (tbs 8 w) (tl _) (tl _) (tl _) (tl _) (tl _) (tl _) (tl _) (tl _) e6 rfl rfl rfl rfl rfl rfl
  exact ⟨_, _, _, f4, f5, f6, fr, g6⟩
def bcJ (p : Int64) : Int32 := (fn_J13_bitCount_95d88 ([], fun _ _ => 0, fun _ _ => 0, fun _ _ => none) p).getD 0
theorem bcJ_eq (h : aH) (p : Int64) : fn_J13_bitCount_95d88 h p = some (bcJ p) := rfl
theorem lN_addN (a b : Nat) : lN a + lN b = lN (a + b) := (Int64.ofNat_add a b).symm
theorem lN_subN {a b : Nat} (h : b ≤ a) : lN a - lN b = lN (a - b) := by
  have : lN a = lN (a - b) + lN b := by rw [lN_addN, Nat.sub_add_cancel h]
  rw [this, Int64.add_sub_cancel]
theorem lus_nat {a k : Nat} (ha : a < 2 ^ 64) (hk : k < 64) : lus (lN a) (nI k) = lN (a / 2 ^ k) := by
  unfold lus
  exact wb_shr ha hk
theorem bcJ_nat {w : Nat} (hw : w < 2 ^ 64) : bcJ (lN w) = nI (pcN w) := by
  have m1 : (6148914691236517205 : Int64) = lN (msk 85 8) := by decide +kernel
  have m2 : (3689348814741910323 : Int64) = lN (msk 51 8) := by decide +kernel
  have m4 : (1085102592571150095 : Int64) = lN (msk 15 8) := by decide +kernel
  have k1 : msk 85 8 < 2 ^ 64 := by decide +kernel
  have k2 : msk 51 8 < 2 ^ 64 := by decide +kernel
  have k4 : msk 15 8 < 2 ^ 64 := by decide +kernel
  have le1 : (w / 2) &&& msk 85 8 ≤ w := Nat.le_trans Nat.and_le_left (Nat.div_le_self _ _)
  have b1 : pa1 8 w < 2 ^ 64 := Nat.lt_of_le_of_lt (Nat.sub_le _ _) hw
  have q2 : ∀ z, z &&& msk 51 8 ≤ msk 51 8 := fun z => Nat.and_le_right
  have b2 : pa2 8 (pa1 8 w) < 2 ^ 63 := by
    have h1 := q2 (pa1 8 w)
    have h2 := q2 (pa1 8 w / 4)
    have h3 : msk 51 8 + msk 51 8 < 2 ^ 63 := by decide +kernel
    unfold pa2
    omega
  have e1 : lN w - ((lus (lN w) 1) &&& 6148914691236517205) = lN (pa1 8 w) := by
    have := lus_nat hw (k := 1) (by decide)
    rw [show lus (lN w) 1 = _ from this, m1, wb_and (by omega) k1]
    exact lN_subN le1
  have e2 : (lN (pa1 8 w) &&& 3689348814741910323) + ((lus (lN (pa1 8 w)) 2) &&& 3689348814741910323) = lN (pa2 8 (pa1 8 w)) := by
    have := lus_nat b1 (k := 2) (by decide)
    rw [show lus (lN (pa1 8 w)) 2 = _ from this, m2, wb_and b1 k2, wb_and (a := pa1 8 w / 2 ^ 2) (by omega) k2]
    exact lN_addN _ _
  have e3 : (lN (pa2 8 (pa1 8 w)) + (lus (lN (pa2 8 (pa1 8 w))) 4)) &&& 1085102592571150095 = lN (tbs 8 w) := by
    have := lus_nat (a := pa2 8 (pa1 8 w)) (by omega) (k := 4) (by decide)
    rw [show lus (lN (pa2 8 (pa1 8 w))) 4 = _ from this, m4, lN_addN, wb_and (by omega) k4]
    rw [← swar 8 w (by simpa using hw)]
    rfl
  obtain ⟨ya, yb, yc, f4, f5, f6, fr, g6⟩ := tbs_fold w
  have e4 : lN (tbs 8 w) + (lus (lN (tbs 8 w)) 8) = lN (tbs 8 w + ya) := by
    have := lus_nat (a := tbs 8 w) (by omega) (k := 8) (by decide)
    rw [show lus (lN (tbs 8 w)) 8 = _ from this, lN_addN, ← f4]
  have e5 : lN (tbs 8 w + ya) + (lus (lN (tbs 8 w + ya)) 16) = lN (tbs 8 w + ya + yb) := by
    have := lus_nat (a := tbs 8 w + ya) (by omega) (k := 16) (by decide)
    rw [show lus (lN (tbs 8 w + ya)) 16 = _ from this, lN_addN, ← f5]
  have e6 : lN (tbs 8 w + ya + yb) + (lus (lN (tbs 8 w + ya + yb)) 32) = lN (tbs 8 w + ya + yb + yc) := by
    have := lus_nat (a := tbs 8 w + ya + yb) (by omega) (k := 32) (by decide)
    rw [show lus (lN (tbs 8 w + ya + yb)) 32 = _ from this, lN_addN, ← f6]
  unfold bcJ fn_J13_bitCount_95d88
  simp only [Option.bind_some, e1, e2, e3, e4, e5, e6, Option.getD_some]
  show (Int64.ofNat (tbs 8 w + ya + yb + yc)).toInt32 &&& 127 = _
  rw [Int64.toInt32_ofNat']
  have := fa_mask (tbs 8 w + ya + yb + yc) 7
  rw [show Int32.ofNat (tbs 8 w + ya + yb + yc) &&& 127 = _ from this]
  show nI ((tbs 8 w + ya + yb + yc) % 128) = _
  rw [fr]
theorem t_or : ∀ d, d < 256 → ∀ s, s < 8 → tb (d ||| 2 ^ s) = tb d + (if d.testBit s then 0 else 1) := by decide +kernel
theorem or_byte (w s i : Nat) : (w ||| 2 ^ s) / 256 ^ i % 256 = if s / 8 = i then (w / 256 ^ i % 256) ||| 2 ^ (s % 8) else w / 256 ^ i % 256 := by
  have e256 : ∀ z : Nat, z / 256 ^ i % 256 = z / 2 ^ (8 * i) % 2 ^ 8 := fun z => by
    rw [Nat.pow_mul]
  have hlt : ∀ z : Nat, z % 2 ^ 8 < 2 ^ 8 := fun z => Nat.mod_lt _ (by decide)
  apply Nat.eq_of_testBit_eq
  intro j
  rw [e256, e256, Nat.testBit_mod_two_pow, Nat.testBit_div_two_pow, Nat.testBit_or]
  by_cases hj : j < 8
  · by_cases hs : s / 8 = i
    · rw [if_pos hs, Nat.testBit_or, Nat.testBit_mod_two_pow, Nat.testBit_div_two_pow, Nat.testBit_two_pow, Nat.testBit_two_pow]
      have : (s = 8 * i + j) = (s % 8 = j) := by
        apply propext
        omega
      simp [hj, this]
      rw [show j + 8 * i = 8 * i + j by omega]
      cases w.testBit (8 * i + j) <;> simp <;> omega
    · rw [if_neg hs, Nat.testBit_mod_two_pow, Nat.testBit_div_two_pow, Nat.testBit_two_pow]
      have : ¬ s = j + 8 * i := by omega
      simp [hj, this]
  · by_cases hs : s / 8 = i
    · rw [if_pos hs, Nat.testBit_or, Nat.testBit_mod_two_pow, Nat.testBit_two_pow]
      have : ¬ s % 8 = j := by omega
      simp [hj, this]
    · rw [if_neg hs, Nat.testBit_mod_two_pow]
      simp [hj]
theorem bit_byte (w s : Nat) : (w / 256 ^ (s / 8) % 256).testBit (s % 8) = w.testBit s := by
  have e : w / 256 ^ (s / 8) % 256 = w / 2 ^ (8 * (s / 8)) % 2 ^ 8 := by rw [Nat.pow_mul]
  rw [e, Nat.testBit_mod_two_pow, Nat.testBit_div_two_pow]
  have : s % 8 + 8 * (s / 8) = s := by omega
  rw [this]
  simp
  intro _
  omega
theorem pcN_or (w s : Nat) (hs : s < 64) : pcN (w ||| 2 ^ s) = pcN w + (if w.testBit s then 0 else 1) := by
  have dd : ∀ z : Nat, pcN z = tb (z / 256 ^ 0 % 256) + tb (z / 256 ^ 1 % 256) + tb (z / 256 ^ 2 % 256) + tb (z / 256 ^ 3 % 256) + tb (z / 256 ^ 4 % 256) + tb (z / 256 ^ 5 % 256) + tb (z / 256 ^ 6 % 256) + tb (z / 256 ^ 7 % 256) := fun z => by
    unfold pcN
    simp only [Nat.div_div_eq_div_mul]
    simp
  have hb : s / 8 < 8 := by omega
  have hm : s % 8 < 8 := Nat.mod_lt _ (by decide)
  have key : ∀ i, tb ((w ||| 2 ^ s) / 256 ^ i % 256) = tb (w / 256 ^ i % 256) + (if s / 8 = i then (if w.testBit s then 0 else 1) else 0) := fun i => by
    rw [or_byte]
    by_cases h : s / 8 = i
    · rw [if_pos h, if_pos h, t_or _ (Nat.mod_lt _ (by decide)) _ hm]
      subst h
      rw [bit_byte]
    · rw [if_neg h, if_neg h]; rfl
  rw [dd, dd]
  simp only [key]
  generalize (if w.testBit s then 0 else 1) = t
  have : s / 8 = 0 ∨ s / 8 = 1 ∨ s / 8 = 2 ∨ s / 8 = 3 ∨ s / 8 = 4 ∨ s / 8 = 5 ∨ s / 8 = 6 ∨ s / 8 = 7 := by omega
  rcases this with h | h | h | h | h | h | h | h <;> simp [h] <;> omega
theorem pcN_0 : pcN 0 = 0 := by decide +kernel
