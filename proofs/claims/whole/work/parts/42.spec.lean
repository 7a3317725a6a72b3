/-! an hour as mathematics: the net, the state's sixteen numbers, what is counted -/
abbrev Net : Type := Nat × Nat × Nat × (Nat → Nat) × (Nat → Nat) × (Nat → Nat)
abbrev N_b (N : Net) : Nat := N.1
abbrev N_s (N : Net) : Nat := N.2.1
abbrev N_l (N : Net) : Nat := N.2.2.1
abbrev N_f (N : Net) : Nat → Nat := N.2.2.2.1
abbrev N_t (N : Net) : Nat → Nat := N.2.2.2.2.1
abbrev N_k (N : Net) : Nat → Nat := N.2.2.2.2.2
def NV (N : Net) : Prop := N_b N ≤ 6 ∧ N_s N ≤ 8 ∧ N_l N < 2 ^ N_b N ∧ ∀ i, i < N_s N → N_f N i < N_b N ∧ N_t N i < N_b N ∧ N_f N i ≠ N_t N i ∧ N_k N i < 3
abbrev XX : Type := Nat → Int32
abbrev ZZ : Type := XX × Int32 × Int32 × XX
abbrev Sem : Type := (Nat → Int32) → Int32
def bitI (s : Nat) : Int32 := 1 <<< (nI s &&& 31)
def b2 (b : Bool) : Int32 := if b = true then 1 else 0
def askd (N : Net) (x : XX) (s : Nat) : XX := fun j => if j = 0 then x (N_f N s) else if j = 1 then x (N_t N s) else if j = 2 then x (6 + N_f N s) else if j = 3 then x (6 + N_t N s) else if j = 4 then nI s else if j = 5 then nI (N_k N s) else x 14 &&& 3
def flw (N : Net) (sem : Sem) (x : XX) (s : Nat) : Int32 := mx 0 (mn (mn (x (N_f N s)) (9 - x (N_t N s))) (sem (askd N x s)))
def onOf (N : Net) (x : XX) (s : Nat) : Int32 :=
  if N_k N s = 0 then x 12 else if N_k N s = 1 then x 12 else
    if x (N_f N s) = 0 then (if x (N_f N s) < x (6 + N_f N s) then x 12 else x 12 ||| bitI s) &&& (bitI s ^^^ (-1)) else (if x (N_f N s) < x (6 + N_f N s) then x 12 else x 12 ||| bitI s)
def opn (N : Net) (x : XX) (s : Nat) : Bool :=
  if N_k N s = 0 then !decide (x (N_f N s) ≤ x (N_t N s)) else if N_k N s = 1 then !decide (x (N_f N s) ≤ x (6 + N_f N s)) else !decide ((onOf N x s &&& bitI s) = 0)
def isBit (w : Int32) (s : Nat) : Bool := !decide (((w >>> (nI s &&& 31)) &&& 1) = 0)
/-- how a sluice lets pass -/
def stp (N : Net) (sem : Sem) (s : Nat) (z : ZZ) : ZZ :=
  if isBit (z.1 13) s = true then z else
    if opn N z.1 s = true then
      (va_up (va_up (va_up z.1 12 (onOf N z.1 s)) (N_f N s) (z.1 (N_f N s) - flw N sem z.1 s)) (N_t N s) (z.1 (N_t N s) + flw N sem z.1 s), z.2.1 + flw N sem z.1 s, z.2.2.1, va_up z.2.2.2 s (z.2.2.2 s + flw N sem z.1 s))
    else (va_up z.1 12 (onOf N z.1 s), z.2)
def swp (N : Net) (sem : Sem) : Nat → ZZ → ZZ
  | 0, z => z
  | n + 1, z => stp N sem n (swp N sem n z)
def lkp (N : Net) (b : Nat) (z : ZZ) : ZZ :=
  if isBit (nI (N_l N)) b = true then
    if z.1 b = 0 then z else (va_up (va_up z.1 b (z.1 b - 1)) 15 (mn 9999 (z.1 15 + 1)), z.2.1, z.2.2.1 + 1, z.2.2.2)
  else z
def lks (N : Net) : Nat → ZZ → ZZ
  | 0, z => z
  | n + 1, z => lkp N n (lks N n z)
def hrZ (N : Net) (sem : Sem) (z : ZZ) : ZZ := (va_up (lks N (N_b N) (swp N sem (N_s N) z)).1 14 ((lks N (N_b N) (swp N sem (N_s N) z)).1 14 + 1), (lks N (N_b N) (swp N sem (N_s N) z)).2)
def hrs (N : Net) (sem : Sem) : Nat → ZZ → ZZ
  | 0, z => z
  | n + 1, z => hrZ N sem (hrs N sem n z)
/-- a state that stands: levels, marks, on, stuck, hour, lost -/
def VS (N : Net) (B : Nat) (x : XX) : Prop :=
  (∀ i, i < 6 → ∃ v : Nat, v ≤ 9 ∧ x i = nI v ∧ (N_b N ≤ i → v = 0)) ∧ (∀ i, i < 6 → ∃ v : Nat, v ≤ 9 ∧ x (6 + i) = nI v) ∧
  (∃ v : Nat, v < 2 ^ N_s N ∧ x 12 = nI v) ∧ (∃ v : Nat, v < 2 ^ N_s N ∧ x 13 = nI v) ∧ (∃ v : Nat, v ≤ B ∧ x 14 = nI v) ∧ (∃ v : Nat, v ≤ 9999 ∧ x 15 = nI v)
theorem VS_mono {N : Net} {B D : Nat} {x : XX} (h : B ≤ D) (v : VS N B x) : VS N D x := by
  obtain ⟨v1, v2, v3, v4, ⟨t, ht, e⟩, v6⟩ := v
  exact ⟨v1, v2, v3, v4, ⟨t, Nat.le_trans ht h, e⟩, v6⟩
theorem VS_congr {N : Net} {c : Nat} {x y : XX} (h : ∀ k, k < 16 → y k = x k) (v : VS N c x) : VS N c y := by
  obtain ⟨v1, v2, v3, v4, v5, v6⟩ := v
  refine ⟨fun i hi => ?_, fun i hi => ?_, ?_, ?_, ?_, ?_⟩
  · rw [h i (by omega)]; exact v1 i hi
  · rw [h (6 + i) (by omega)]; exact v2 i hi
  · rw [h 12 (by decide)]; exact v3
  · rw [h 13 (by decide)]; exact v4
  · rw [h 14 (by decide)]; exact v5
  · rw [h 15 (by decide)]; exact v6
theorem bitI_eq {s : Nat} (hs : s < 8) : bitI s = nI (2 ^ s) := by
  have : ∀ s, s < 8 → bitI s = nI (2 ^ s) := by decide +kernel
  exact this s hs
theorem bitI_eq' {s : Nat} (hs : s < 31) : bitI s = nI (2 ^ s) := by
  have : ∀ s, s < 31 → bitI s = nI (2 ^ s) := by decide +kernel
  exact this s hs
theorem bt_nI (n i : Nat) (hi : i < 32) : bt (nI n) i = n.testBit i := by
  unfold bt
  show (BitVec.ofNat 32 n).getLsbD i = _
  rw [BitVec.getLsbD_ofNat]
  simp [hi]
/-- a bit asked in three ways -/
theorem bit_sh (w : Int32) {s : Nat} (hs : s < 31) : ((w >>> (nI s &&& 31)) &&& 1) = 0 ↔ bt w s = false := by
  constructor
  · intro e
    have := congrArg (fun x => bt x 0) e
    simp only [b_and, b_sshr s (by omega) w (show 0 < 32 by omega)] at this
    rw [if_pos (by omega), b_0] at this
    have h1 : bt 1 0 = true := by decide
    rw [h1, Bool.and_true] at this
    simpa using this
  · intro e
    apply b_ext
    intro i hi
    rw [b_and, b_0, b_sshr s (by omega) w hi]
    by_cases h0 : i = 0
    · subst h0
      rw [if_pos (by omega)]
      simp [e]
    · have h1 : ∀ i, i < 32 → i ≠ 0 → bt 1 i = false := by decide +kernel
      rw [h1 i hi h0, Bool.and_false]
theorem bit_sh1 (w : Int32) {s : Nat} (hs : s < 31) : ((w >>> (nI s &&& 31)) &&& 1) = 1 ↔ bt w s = true := by
  constructor
  · intro e
    have := congrArg (fun x => bt x 0) e
    simp only [b_and, b_sshr s (by omega) w (show 0 < 32 by omega)] at this
    rw [if_pos (by omega)] at this
    have h1 : bt 1 0 = true := by decide
    rw [h1, Bool.and_true] at this
    simpa using this
  · intro e
    apply b_ext
    intro i hi
    rw [b_and, b_sshr s (by omega) w hi]
    by_cases h0 : i = 0
    · subst h0
      rw [if_pos (by omega)]
      simp [e]
    · have h1 : ∀ i, i < 32 → i ≠ 0 → bt 1 i = false := by decide +kernel
      rw [h1 i hi h0, Bool.and_false]
theorem bit_and (w : Int32) {s : Nat} (hs : s < 31) : (w &&& bitI s) = 0 ↔ bt w s = false := by
  constructor
  · intro e
    have := congrArg (fun x => bt x s) e
    simp only [b_and, b_0] at this
    rw [bitI_eq' hs, bt_nI _ _ (by omega)] at this
    simpa [Nat.testBit_two_pow_self] using this
  · intro e
    apply b_ext
    intro i hi
    rw [b_and, b_0, bitI_eq' hs, bt_nI _ _ hi]
    by_cases h0 : i = s
    · subst h0; simp [e]
    · rw [Nat.testBit_two_pow_of_ne (Ne.symm h0), Bool.and_false]
theorem isBit_bt (w : Int32) {s : Nat} (hs : s < 31) : isBit w s = bt w s := by
  unfold isBit
  cases h : bt w s
  · simp [(bit_sh w hs).mpr h]
  · have : ¬ ((w >>> (nI s &&& 31)) &&& 1) = 0 := fun q => by rw [(bit_sh w hs).mp q] at h; cases h
    simp [this]
theorem has_eq (h : aH) (w : Int32) {s : Nat} (hs : s < 31) : fn_X12_has h w (nI s) = some (b2 (isBit w s)) := by
  unfold fn_X12_has b2
  rw [isBit_bt w hs]
  cases e : bt w s
  · have : ¬ ((w >>> (nI s &&& 31)) &&& 1) = 1 := fun q => by rw [(bit_sh1 w hs).mp q] at e; cases e
    simp [this]
  · simp [(bit_sh1 w hs).mpr e]
theorem b2_0 (b : Bool) : b2 b = 0 ↔ b = false := by cases b <;> simp [b2]
theorem bz_b2 (b : Bool) : bz (b2 b) = some (b2 b) := by cases b <;> rfl
/-- which bits: all below n -/
theorem word_iff (w : Int32) {n : Nat} (hn : n ≤ 8) : (∃ v : Nat, v < 2 ^ n ∧ w = nI v) ↔ ∀ i, n ≤ i → i < 32 → bt w i = false := by
  constructor
  · rintro ⟨v, hv, rfl⟩ i h1 h2
    rw [bt_nI _ _ h2]
    exact Nat.testBit_lt_two_pow (Nat.lt_of_lt_of_le hv (Nat.pow_le_pow_right (by decide) h1))
  · intro h
    refine ⟨w.toBitVec.toNat % 2 ^ n, Nat.mod_lt _ (Nat.two_pow_pos n), ?_⟩
    apply b_ext
    intro i hi
    rw [bt_nI _ _ hi, Nat.testBit_mod_two_pow]
    by_cases h1 : i < n
    · simp only [h1, decide_true, Bool.true_and]
      rfl
    · simp [h1, h i (by omega) hi]
theorem b_bitI {s : Nat} (hs : s < 31) (i : Nat) (hi : i < 32) : bt (bitI s) i = decide (s = i) := by
  rw [bitI_eq' hs, bt_nI _ _ hi, Nat.testBit_two_pow]
theorem onOf_ok {N : Net} (V : NV N) {B : Nat} {x : XX} (v : VS N B x) {s : Nat} (hs : s < N_s N) : ∃ v : Nat, v < 2 ^ N_s N ∧ onOf N x s = nI v := by
  have h8 : N_s N ≤ 8 := V.2.1
  have h0 := (word_iff (x 12) h8).mp v.2.2.1
  rw [word_iff _ h8]
  have h1 : ∀ i, N_s N ≤ i → i < 32 → bt (x 12 ||| bitI s) i = false := fun i h1 h2 => by
    rw [b_or, h0 i h1 h2, b_bitI (by omega) i h2]
    simp; omega
  have h2 : ∀ i, N_s N ≤ i → i < 32 → bt (if x (N_f N s) < x (6 + N_f N s) then x 12 else x 12 ||| bitI s) i = false := fun i a1 a2 => by
    split
    · exact h0 i a1 a2
    · exact h1 i a1 a2
  intro i a1 a2
  unfold onOf
  split
  · exact h0 i a1 a2
  · split
    · exact h0 i a1 a2
    · split
      · rw [b_and, h2 i a1 a2, Bool.false_and]
      · exact h2 i a1 a2
theorem mn_nI {a b : Nat} (ha : a < 2 ^ 31) (hb : b < 2 ^ 31) : mn (nI a) (nI b) = nI (min a b) := by
  unfold mn
  rw [Nat.min_def]
  by_cases h : a ≤ b
  · rw [if_neg (nI_nlt h hb), if_pos h]
  · rw [if_pos (nI_lt (by omega) ha), if_neg h]
theorem mx0_le {m y : Int32} (h : m ≤ 0) : mx 0 (mn m y) = 0 := by
  unfold mx mn
  have h' := Int32.le_iff_toInt_le.mp h
  have z : (0 : Int32).toInt = 0 := by decide
  rw [z] at h'
  rw [if_neg]
  intro q
  have q' := Int32.lt_iff_toInt_lt.mp q
  rw [z] at q'
  split at q'
  · rename_i c
    have c' := Int32.lt_iff_toInt_lt.mp c
    omega
  · omega
theorem clampI (m : Nat) (hm : m < 2 ^ 31) (y : Int32) : ∃ v : Nat, v ≤ m ∧ mx 0 (mn (nI m) y) = nI v := by
  by_cases h0 : y < 0
  · refine ⟨0, by omega, ?_⟩
    have : mn (nI m) y = y := by
      unfold mn
      rw [if_pos]
      have a := Int32.lt_iff_toInt_lt.mp h0
      have z : (0 : Int32).toInt = 0 := by decide
      rw [z] at a
      apply Int32.lt_iff_toInt_lt.mpr
      rw [nI_toInt hm]
      omega
    rw [this]
    unfold mx
    rw [if_neg]
    · rfl
    · intro q
      have a := Int32.lt_iff_toInt_lt.mp h0
      have b := Int32.lt_iff_toInt_lt.mp q
      omega
  · obtain ⟨j, hj, rfl⟩ := nI_of h0
    rw [mn_nI hm hj]
    refine ⟨min m j, Nat.min_le_left _ _, ?_⟩
    unfold mx
    by_cases h : 0 < min m j
    · rw [if_pos (show (0 : Int32) < nI (min m j) from nI_lt (a := 0) h (by omega))]
    · rw [if_neg]
      · have : min m j = 0 := by omega
        rw [this]; rfl
      · have : min m j = 0 := by omega
        rw [this]; decide
theorem nI_sub {a b : Nat} (h : b ≤ a) : nI a - nI b = nI (a - b) := by
  have : nI a = nI (a - b) + nI b := by rw [nI_add, Nat.sub_add_cancel h]
  rw [this, Int32.add_sub_cancel]
theorem flw_ok {N : Net} (V : NV N) (sem : Sem) {x : XX} {s a b : Nat} (ha : a ≤ 9) (hb : b ≤ 9) (ea : x (N_f N s) = nI a) (eb : x (N_t N s) = nI b) : ∃ v : Nat, v ≤ a ∧ v + b ≤ 9 ∧ flw N sem x s = nI v := by
  have e9 : (9 : Int32) - nI b = nI (9 - b) := nI_sub (a := 9) hb
  unfold flw
  rw [ea, eb, e9, mn_nI (by omega) (by omega)]
  obtain ⟨v, hv, e⟩ := clampI (min a (9 - b)) (by omega) (sem (askd N x s))
  exact ⟨v, by omega, by omega, e⟩
theorem up_ne {α : Type} (f : Nat → α) {k j : Nat} (v : α) (h : j ≠ k) : va_up f k v j = f j := if_neg h
theorem up_eq {α : Type} (f : Nat → α) (k : Nat) (v : α) : va_up f k v k = v := if_pos rfl
theorem VS_lv {N : Net} {B : Nat} {x : XX} (v : VS N B x) {i k : Nat} (hi : i < N_b N) (h6 : N_b N ≤ 6) (hk : k ≤ 9) : VS N B (va_up x i (nI k)) := by
  obtain ⟨v1, v2, v3, v4, v5, v6⟩ := v
  refine ⟨fun j hj => ?_, fun j hj => ?_, ?_, ?_, ?_, ?_⟩
  · by_cases e : j = i
    · subst e
      exact ⟨k, hk, up_eq _ _ _, fun q => by omega⟩
    · rw [up_ne _ _ e]; exact v1 j hj
  · rw [up_ne _ _ (by omega)]; exact v2 j hj
  · rw [up_ne _ _ (by omega)]; exact v3
  · rw [up_ne _ _ (by omega)]; exact v4
  · rw [up_ne _ _ (by omega)]; exact v5
  · rw [up_ne _ _ (by omega)]; exact v6
theorem VS_mk {N : Net} {B : Nat} {x : XX} (v : VS N B x) {i k : Nat} (hi : i < 6) (hk : k ≤ 9) : VS N B (va_up x (6 + i) (nI k)) := by
  obtain ⟨v1, v2, v3, v4, v5, v6⟩ := v
  refine ⟨fun j hj => ?_, fun j hj => ?_, ?_, ?_, ?_, ?_⟩
  · rw [up_ne _ _ (by omega)]; exact v1 j hj
  · by_cases e : j = i
    · subst e
      exact ⟨k, hk, up_eq _ _ _⟩
    · rw [up_ne _ _ (by omega)]; exact v2 j hj
  · rw [up_ne _ _ (by omega)]; exact v3
  · rw [up_ne _ _ (by omega)]; exact v4
  · rw [up_ne _ _ (by omega)]; exact v5
  · rw [up_ne _ _ (by omega)]; exact v6
theorem VS_12 {N : Net} {B : Nat} {x : XX} (v : VS N B x) {y : Int32} (hy : ∃ v : Nat, v < 2 ^ N_s N ∧ y = nI v) : VS N B (va_up x 12 y) := by
  obtain ⟨v1, v2, v3, v4, v5, v6⟩ := v
  refine ⟨fun j hj => ?_, fun j hj => ?_, ?_, v4, v5, v6⟩
  · rw [up_ne _ _ (by omega)]; exact v1 j hj
  · rw [up_ne _ _ (by omega)]; exact v2 j hj
  · rw [up_eq]; exact hy
theorem VS_13 {N : Net} {B : Nat} {x : XX} (v : VS N B x) {y : Int32} (hy : ∃ v : Nat, v < 2 ^ N_s N ∧ y = nI v) : VS N B (va_up x 13 y) := by
  obtain ⟨v1, v2, v3, v4, v5, v6⟩ := v
  refine ⟨fun j hj => ?_, fun j hj => ?_, v3, ?_, v5, v6⟩
  · rw [up_ne _ _ (by omega)]; exact v1 j hj
  · rw [up_ne _ _ (by omega)]; exact v2 j hj
  · rw [up_eq]; exact hy
theorem VS_14 {N : Net} {B D : Nat} {x : XX} (v : VS N B x) {y : Int32} (hy : ∃ v : Nat, v ≤ D ∧ y = nI v) : VS N D (va_up x 14 y) := by
  obtain ⟨v1, v2, v3, v4, v5, v6⟩ := v
  refine ⟨fun j hj => ?_, fun j hj => ?_, v3, v4, ?_, v6⟩
  · rw [up_ne _ _ (by omega)]; exact v1 j hj
  · rw [up_ne _ _ (by omega)]; exact v2 j hj
  · rw [up_eq]; exact hy
theorem VS_15 {N : Net} {B : Nat} {x : XX} (v : VS N B x) {y : Int32} (hy : ∃ v : Nat, v ≤ 9999 ∧ y = nI v) : VS N B (va_up x 15 y) := by
  obtain ⟨v1, v2, v3, v4, v5, v6⟩ := v
  refine ⟨fun j hj => ?_, fun j hj => ?_, v3, v4, v5, ?_⟩
  · rw [up_ne _ _ (by omega)]; exact v1 j hj
  · rw [up_ne _ _ (by omega)]; exact v2 j hj
  · rw [up_eq]; exact hy
theorem stp_VS {N : Net} (V : NV N) (sem : Sem) {B s : Nat} (hs : s < N_s N) {z : ZZ} (v : VS N B z.1) : VS N B (stp N sem s z).1 := by
  have ho := onOf_ok V v hs
  obtain ⟨f1, f2, f3, f4⟩ := V.2.2.2 s hs
  have hb6 := V.1
  have k1 : VS N B (va_up z.1 12 (onOf N z.1 s)) := VS_12 v ho
  unfold stp
  split
  · exact v
  · split
    · obtain ⟨a, ha, ea, -⟩ := v.1 (N_f N s) (by omega)
      obtain ⟨b, hb, eb, -⟩ := v.1 (N_t N s) (by omega)
      obtain ⟨q, q1, q2, eq⟩ := flw_ok V sem ha hb ea eb
      rw [eq, ea, eb, nI_sub q1, nI_add]
      exact VS_lv (VS_lv k1 f1 hb6 (by omega)) f2 hb6 (by omega)
    · exact k1
theorem swp_VS {N : Net} (V : NV N) (sem : Sem) {B : Nat} {z : ZZ} (v : VS N B z.1) : ∀ s, s ≤ N_s N → VS N B (swp N sem s z).1
  | 0, _ => v
  | s + 1, h => stp_VS V sem (by omega) (swp_VS V sem v s (by omega))
theorem lkp_VS {N : Net} (V : NV N) {B b : Nat} (hb : b < N_b N) {z : ZZ} (v : VS N B z.1) : VS N B (lkp N b z).1 := by
  have hb6 := V.1
  unfold lkp
  split
  · split
    · exact v
    · rename_i h0
      obtain ⟨a, ha, ea, ea0⟩ := v.1 b (by omega)
      obtain ⟨l, hl, el⟩ := v.2.2.2.2.2
      have a0 : a ≠ 0 := fun q => h0 (by rw [ea, q]; rfl)
      obtain ⟨a', rfl⟩ : ∃ a', a = a' + 1 := ⟨a - 1, by omega⟩
      have el2 : mn 9999 (z.1 15 + 1) = nI (min 9999 (l + 1)) := by
        rw [el, nI_1]
        exact mn_nI (a := 9999) (by omega) (by omega)
      rw [ea, nI_pred, el2]
      exact VS_15 (VS_lv v hb hb6 (by omega)) ⟨_, by omega, rfl⟩
  · exact v
theorem lks_VS {N : Net} (V : NV N) {B : Nat} {z : ZZ} (v : VS N B z.1) : ∀ b, b ≤ N_b N → VS N B (lks N b z).1
  | 0, _ => v
  | b + 1, h => lkp_VS V (by omega) (lks_VS V v b (by omega))
theorem hrZ_VS {N : Net} (V : NV N) (sem : Sem) {B : Nat} {z : ZZ} (v : VS N B z.1) : VS N (B + 1) (hrZ N sem z).1 := by
  have k := lks_VS V (swp_VS V sem v (N_s N) (Nat.le_refl _)) (N_b N) (Nat.le_refl _)
  obtain ⟨t, ht, et⟩ := k.2.2.2.2.1
  unfold hrZ
  exact VS_14 k ⟨t + 1, by omega, by rw [et, nI_1]⟩
theorem hrs_VS {N : Net} (V : NV N) (sem : Sem) {B : Nat} {z : ZZ} (v : VS N B z.1) : ∀ n, VS N (B + n) (hrs N sem n z).1
  | 0 => v
  | n + 1 => hrZ_VS V sem (hrs_VS V sem v n)
/-- what is counted doesn't touch the levels -/
theorem stp_x (N : Net) (sem : Sem) (s : Nat) (z y : ZZ) (e : z.1 = y.1) : (stp N sem s z).1 = (stp N sem s y).1 := by
  unfold stp
  rw [e]
  split
  · exact e
  · split <;> rfl
theorem swp_x (N : Net) (sem : Sem) (z y : ZZ) (e : z.1 = y.1) : ∀ s, (swp N sem s z).1 = (swp N sem s y).1
  | 0 => e
  | s + 1 => stp_x N sem s _ _ (swp_x N sem z y e s)
theorem lkp_x (N : Net) (b : Nat) (z y : ZZ) (e : z.1 = y.1) : (lkp N b z).1 = (lkp N b y).1 := by
  unfold lkp
  rw [e]
  split
  · split
    · exact e
    · rfl
  · exact e
theorem lks_x (N : Net) (z y : ZZ) (e : z.1 = y.1) : ∀ b, (lks N b z).1 = (lks N b y).1
  | 0 => e
  | b + 1 => lkp_x N b _ _ (lks_x N z y e b)
def hX (N : Net) (sem : Sem) (x : XX) : XX := (hrZ N sem (x, 0, 0, fun _ => 0)).1
theorem hrZ_x (N : Net) (sem : Sem) (z : ZZ) : (hrZ N sem z).1 = hX N sem z.1 := by
  unfold hX hrZ
  dsimp only
  rw [lks_x N (swp N sem (N_s N) z) (swp N sem (N_s N) (z.1, 0, 0, fun _ => 0)) (swp_x N sem z (z.1, 0, 0, fun _ => 0) rfl (N_s N)) (N_b N)]
def hXs (N : Net) (sem : Sem) : Nat → XX → XX
  | 0, x => x
  | n + 1, x => hX N sem (hXs N sem n x)
theorem hrs_x (N : Net) (sem : Sem) (z : ZZ) : ∀ n, (hrs N sem n z).1 = hXs N sem n z.1
  | 0 => rfl
  | n + 1 => by
    show (hrZ N sem (hrs N sem n z)).1 = hX N sem (hXs N sem n z.1)
    rw [hrZ_x, hrs_x N sem z n]
theorem hX_VS {N : Net} (V : NV N) (sem : Sem) {B : Nat} {x : XX} (v : VS N B x) : VS N (B + 1) (hX N sem x) := hrZ_VS V sem (z := (x, 0, 0, fun _ => 0)) v
theorem hXs_VS {N : Net} (V : NV N) (sem : Sem) {B : Nat} {x : XX} (v : VS N B x) : ∀ n, VS N (B + n) (hXs N sem n x)
  | 0 => v
  | n + 1 => hX_VS V sem (hXs_VS V sem v n)
