/-! which basins are reached; the least cut -/
def itr {α : Type} (g : α → α) : Nat → α → α
  | 0, a => a
  | n + 1, a => g (itr g n a)
theorem itr_stab {α : Type} (g : α → α) (c : α → Nat) (P : α → Prop) (hP : ∀ a, P a → P (g a)) (hg : ∀ a, P a → g a = a ∨ c a < c (g a)) (B : Nat) (hB : ∀ a, P a → c a ≤ B) (a : α) (ha : P a) (h1 : 1 ≤ c a) (n : Nat) (hn : B ≤ n + 1) : itr g n a = itr g (B - 1) a := by
  have hp : ∀ n, P (itr g n a) := by
    intro n
    induction n with
    | zero => exact ha
    | succ n ih => exact hP _ ih
  have key : ∀ n, g (itr g n a) = itr g n a ∨ n + 1 ≤ c (itr g n a) := by
    intro n
    induction n with
    | zero => exact Or.inr h1
    | succ n ih =>
      have fx : g (itr g n a) = itr g n a → g (itr g (n + 1) a) = itr g (n + 1) a := fun e => congrArg g e
      rcases ih with e | e
      · exact Or.inl (fx e)
      · rcases hg _ (hp n) with e2 | e2
        · exact Or.inl (fx e2)
        · have e3 : c (itr g n a) < c (itr g (n + 1) a) := e2
          exact Or.inr (by omega)
  have b1 := hB a ha
  have fix : g (itr g (B - 1) a) = itr g (B - 1) a := by
    rcases key (B - 1) with e | e
    · exact e
    · rcases hg _ (hp (B - 1)) with e2 | e2
      · exact e2
      · have := hB _ (hP _ (hp (B - 1)))
        omega
  have all : ∀ k, itr g (B - 1 + k) a = itr g (B - 1) a := by
    intro k
    induction k with
    | zero => rfl
    | succ k ih =>
      show g (itr g (B - 1 + k) a) = _
      rw [ih]; exact fix
  have := all (n - (B - 1))
  rwa [show B - 1 + (n - (B - 1)) = n from by omega] at this
def cntB : Nat → (Nat → Bool) → Nat
  | 0, _ => 0
  | n + 1, a => cntB n a + (a n).toNat
theorem cntB_le (a : Nat → Bool) : ∀ n, cntB n a ≤ n
  | 0 => Nat.le_refl _
  | n + 1 => by
    have := cntB_le a n
    have h2 : (a n).toNat ≤ 1 := Bool.toNat_le _
    show cntB n a + (a n).toNat ≤ n + 1
    omega
theorem cntB_lt {a b : Nat → Bool} : ∀ n, (∀ i, i < n → a i = true → b i = true) → (∀ i, i < n → b i = a i) ∧ cntB n a = cntB n b ∨ cntB n a < cntB n b
  | 0, _ => Or.inl ⟨fun i h => absurd h (Nat.not_lt_zero _), rfl⟩
  | n + 1, h => by
    show _ ∧ cntB n a + (a n).toNat = cntB n b + (b n).toNat ∨ cntB n a + (a n).toNat < cntB n b + (b n).toNat
    have hn := h n (by omega)
    rcases cntB_lt n (fun i hi => h i (by omega)) with ⟨e1, e2⟩ | e
    · cases ha : a n
      · cases hb : b n
        · refine Or.inl ⟨fun i hi => ?_, by rw [e2]⟩
          by_cases hh : i = n
          · rw [hh, ha, hb]
          · exact e1 i (by omega)
        · right; simp; omega
      · have hb := hn ha
        refine Or.inl ⟨fun i hi => ?_, by rw [e2, hb]⟩
        by_cases hh : i = n
        · rw [hh, ha, hb]
        · exact e1 i (by omega)
    · right
      cases ha : a n
      · simp; omega
      · rw [hn ha]; omega
theorem cntB_pos {a : Nat → Bool} {i : Nat} (hi : a i = true) : ∀ n, i < n → 1 ≤ cntB n a
  | 0, h => absurd h (Nat.not_lt_zero _)
  | n + 1, h => by
    show 1 ≤ cntB n a + (a n).toNat
    by_cases hh : i = n
    · subst hh; rw [hi]; simp
    · have := cntB_pos hi n (by omega)
      omega
/-- sets of bits -/
theorem tb_big {n v i : Nat} (h : v < 2 ^ n) (hi : n ≤ i) : v.testBit i = false := Nat.testBit_lt_two_pow (Nat.lt_of_lt_of_le h (Nat.pow_le_pow_right (by decide) hi))
theorem bits_lt {n v q : Nat} (hv : v < 2 ^ n) (hq : q < 2 ^ n) (h : v ||| q = q) : q = v ∨ cntB n v.testBit < cntB n q.testBit := by
  have sub : ∀ i, v.testBit i = true → q.testBit i = true := fun i e => by rw [← h, Nat.testBit_or, e]; rfl
  rcases cntB_lt n (fun i _ => sub i) with ⟨e, -⟩ | e
  · left
    apply Nat.eq_of_testBit_eq
    intro i
    rcases Nat.lt_or_ge i n with hi | hi
    · exact e i hi
    · rw [tb_big hv hi, tb_big hq hi]
  · exact Or.inr e
theorem isBit_nI (v : Nat) {s : Nat} (hs : s < 31) : isBit (nI v) s = v.testBit s := by rw [isBit_bt _ hs, bt_nI _ _ (by omega)]
section RCH
variable {N : Net} {sem : Sem} {x : XX} {l : List Int64} {C M : aH}
def rcS (N : Net) (u : Int32) (s v : Nat) : Nat := if isBit u s = true then v else if v.testBit (N_f N s) = true then v ||| 2 ^ (N_t N s) else v
def rcR (N : Net) (u : Int32) : Nat → Nat → Nat
  | 0, v => v
  | n + 1, v => rcS N u n (rcR N u n v)
def rcd (N : Net) (u : Int32) (b : Nat) : Nat := itr (rcR N u (N_s N)) (N_b N - 1) (2 ^ b)
theorem rcS_sub (u : Int32) (s v : Nat) : v ||| rcS N u s v = rcS N u s v := by
  unfold rcS
  split
  · exact Nat.or_self _
  · split
    · rw [← Nat.or_assoc, Nat.or_self]
    · exact Nat.or_self _
theorem rcR_sub (u : Int32) (v : Nat) : ∀ n, v ||| rcR N u n v = rcR N u n v
  | 0 => Nat.or_self _
  | n + 1 => by
    show v ||| rcS N u n (rcR N u n v) = rcS N u n (rcR N u n v)
    rw [← rcS_sub (N := N) u n (rcR N u n v), ← Nat.or_assoc, rcR_sub u v n]
theorem rcR_lt (V : NV N) (u : Int32) {v : Nat} (hv : v < 2 ^ N_b N) : ∀ n, n ≤ N_s N → rcR N u n v < 2 ^ N_b N
  | 0, _ => hv
  | n + 1, hn => by
    have ih := rcR_lt V u hv n (by omega)
    show rcS N u n (rcR N u n v) < _
    unfold rcS
    split
    · exact ih
    · split
      · exact Nat.or_lt_two_pow ih (Nat.pow_lt_pow_right (by decide) (V.2.2.2 n (by omega)).2.1)
      · exact ih
theorem rcd_eq (V : NV N) (u : Int32) {b : Nat} (hb : b < N_b N) (n : Nat) (hn : N_b N ≤ n + 1) : itr (rcR N u (N_s N)) n (2 ^ b) = rcd N u b := by
  refine itr_stab _ (fun v => cntB (N_b N) v.testBit) (fun v => v < 2 ^ N_b N) (fun v hv => rcR_lt V u hv _ (Nat.le_refl _)) (fun v hv => bits_lt hv (rcR_lt V u hv _ (Nat.le_refl _)) (rcR_sub u v _)) (N_b N) (fun v _ => cntB_le _ _) (2 ^ b) (Nat.pow_lt_pow_right (by decide) hb) (cntB_pos (i := b) (Nat.testBit_two_pow_self) _ hb) n hn
theorem rcd_lt (V : NV N) (u : Int32) {b : Nat} (hb : b < N_b N) : ∀ n, itr (rcR N u (N_s N)) n (2 ^ b) < 2 ^ N_b N
  | 0 => Nat.pow_lt_pow_right (by decide) hb
  | n + 1 => rcR_lt V u (rcd_lt V u hb n) _ (Nat.le_refl _)
theorem openC_eq (h : aH) (u : Int32) (s : Nat) : fn_X10_isOpen h (nI s) u = some (b2 (!isBit u s)) := by
  unfold fn_X10_isOpen isBit b2
  by_cases e : ((u >>> (nI s &&& 31)) &&& 1) = 0 <;> simp [e]
theorem freeM_eq (w : MW N sem x M) {s : Nat} (hs : s < 31) (u : Int32) : fn_X12_isFree M 86 (nI s) u = some (b2 (!isBit (x 13 ||| u) s)) := by
  unfold fn_X12_isFree
  rw [g_86_0 w.1, Option.bind_some, show (13 : Int32) = nI 13 from rfl, aI_eq w.1 87 14 16 rfl 13 (by decide) (by decide), Option.bind_some, w.2.2.1 13 (by decide), has_eq _ _ hs, Option.bind_some]
  cases isBit (x 13 ||| u) s <;> rfl
theorem roundC (w : Wf C) (c : CN N C) (V : NV N) (u v4 : Int32) (v : Nat) : lp (lb_X10_reached_17 C 9 u v4) lpN (nI v, 0) = some (nI (rcR N u (N_s N) v)) := by
  have h8 := V.2.1
  have h6 := V.1
  refine lp_run (fun i => (nI (rcR N u i v), nI i)) (N_s N) (nI (rcR N u (N_s N) v)) ?_ ?_ (by omega) rfl
  · intro i hi
    obtain ⟨f1, f2, -, -⟩ := V.2.2.2 i hi
    unfold lb_X10_reached_17
    simp only [g_9_0 w, w_gI w 3 0 1 rfl, c.2.1, Option.bind_some, if_pos (nI_lt hi (show N_s N < 2 ^ 31 by omega)), openC_eq, nI_1]
    show _ = some (Sum.inl (nI (rcS N u i (rcR N u i v)), nI (i + 1)))
    unfold rcS
    cases e : isBit u i
    · rw [if_neg (show ¬ b2 (!false) = 0 by decide), if_neg (show ¬ false = true by decide)]
      simp only [g_3_3 w, g_3_4 w, Option.bind_some, aI_eq w 4 14 8 rfl i (by omega) (by decide), aI_eq w 5 14 8 rfl i (by omega) (by decide), (c.2.2.2 i hi).1, (c.2.2.2 i hi).2.1]
      have bf := isBit_nI (rcR N u i v) (show N_f N i < 31 by omega)
      have bt' : (1 : Int32) <<< (nI (N_t N i) &&& 31) = nI (2 ^ N_t N i) := bitI_eq (show N_t N i < 8 by omega)
      by_cases q : (nI (rcR N u i v) >>> (nI (N_f N i) &&& 31)) &&& 1 = 0
      · rw [if_pos q]
        have : (rcR N u i v).testBit (N_f N i) = false := by rw [← bf]; unfold isBit; simp [q]
        rw [this, if_neg (by decide)]
      · rw [if_neg q]
        have : (rcR N u i v).testBit (N_f N i) = true := by rw [← bf]; unfold isBit; simp [q]
        rw [this, if_pos rfl, bt', fa_or]
    · rw [if_pos (show b2 (!true) = 0 by decide), if_pos rfl]
  · unfold lb_X10_reached_17
    simp only [g_9_0 w, w_gI w 3 0 1 rfl, c.2.1, Option.bind_some, if_neg (nI_nlt (Nat.le_refl (N_s N)) (show N_s N < 2 ^ 31 by omega))]
theorem reachedC (w : Wf C) (c : CN N C) (V : NV N) (u : Int32) {b : Nat} (hb : b < N_b N) : fn_X10_reached C 9 (nI b) u = some (nI (rcd N u b)) := by
  have h6 := V.1
  unfold fn_X10_reached
  have eb : (1 : Int32) <<< (nI b &&& 31) = nI (2 ^ b) := bitI_eq (show b < 8 by omega)
  have loop : lp (lb_X10_reached_7 C 9 u) lpN (nI (2 ^ b), 0) = some (nI (itr (rcR N u (N_s N)) 6 (2 ^ b))) := by
    refine lp_run (fun i => (nI (itr (rcR N u (N_s N)) i (2 ^ b)), nI i)) 6 _ ?_ ?_ (by decide) rfl
    · intro i hi
      unfold lb_X10_reached_7
      simp only [if_pos (show nI i < 6 from nI_lt (b := 6) hi (by decide)), roundC w c V, Option.bind_some, nI_1]
      rfl
    · unfold lb_X10_reached_7
      simp only [if_neg (show ¬ nI 6 < 6 by decide)]
  rw [Option.bind_some, eb, loop, rcd_eq V u hb 6 (by omega)]
  rfl
theorem roundM (w : MW N sem x M) (V : NV N) (u v4 : Int32) (v : Nat) : lp (lb_X12_reachOf_19 M 86 u v4) lpN (nI v, 0) = some (nI (rcR N (x 13 ||| u) (N_s N) v)) := by
  have h8 := V.2.1
  have h6 := V.1
  have c := w.2.1
  refine lp_run (fun i => (nI (rcR N (x 13 ||| u) i v), nI i)) (N_s N) _ ?_ ?_ (by omega) rfl
  · intro i hi
    obtain ⟨f1, f2, -, -⟩ := V.2.2.2 i hi
    unfold lb_X12_reachOf_19
    simp only [w_gI w.1 86 11 2 rfl, c.2.1, Option.bind_some, if_pos (nI_lt hi (show N_s N < 2 ^ 31 by omega)), k_86 w.1, freeM_eq w (show i < 31 by omega), nI_1]
    show _ = some (Sum.inl (nI (rcS N (x 13 ||| u) i (rcR N (x 13 ||| u) i v)), nI (i + 1)))
    unfold rcS
    cases e : isBit (x 13 ||| u) i
    · rw [if_neg (show ¬ b2 (!false) = 0 by decide), if_neg (show ¬ false = true by decide)]
      simp only [g_86_4 w.1, g_86_5 w.1, Option.bind_some, aI_eq w.1 88 14 8 rfl i (by omega) (by decide), aI_eq w.1 89 14 8 rfl i (by omega) (by decide), (c.2.2.2 i hi).1, (c.2.2.2 i hi).2.1, has_eq _ _ (show N_f N i < 31 by omega), isBit_nI _ (show N_f N i < 31 by omega)]
      have bt' : (1 : Int32) <<< (nI (N_t N i) &&& 31) = nI (2 ^ N_t N i) := bitI_eq (show N_t N i < 8 by omega)
      cases q : (rcR N (x 13 ||| u) i v).testBit (N_f N i)
      · rw [if_pos (show b2 false = 0 by decide), if_neg (by decide)]
      · rw [if_neg (show ¬ b2 true = 0 by decide), if_pos rfl, bt', fa_or]
    · rw [if_pos (show b2 (!true) = 0 by decide), if_pos rfl]
  · unfold lb_X12_reachOf_19
    simp only [w_gI w.1 86 11 2 rfl, c.2.1, Option.bind_some, if_neg (nI_nlt (Nat.le_refl (N_s N)) (show N_s N < 2 ^ 31 by omega))]
theorem reachOfM (w : MW N sem x M) (V : NV N) (u : Int32) {b : Nat} (hb : b < N_b N) : fn_X12_reachOf M 86 (nI b) u = some (nI (rcd N (x 13 ||| u) b)) := by
  have h6 := V.1
  unfold fn_X12_reachOf
  have eb : (1 : Int32) <<< (nI b &&& 31) = nI (2 ^ b) := bitI_eq (show b < 8 by omega)
  have loop : lp (lb_X12_reachOf_7 M 86 u) lpN (nI (2 ^ b), 0) = some (nI (itr (rcR N (x 13 ||| u) (N_s N)) (N_b N) (2 ^ b))) := by
    refine lp_run (fun i => (nI (itr (rcR N (x 13 ||| u) (N_s N)) i (2 ^ b)), nI i)) (N_b N) _ ?_ ?_ (by omega) rfl
    · intro i hi
      unfold lb_X12_reachOf_7
      simp only [w_gI w.1 86 11 1 rfl, w.2.1.1, if_pos (nI_lt hi (show N_b N < 2 ^ 31 by omega)), roundM w V, Option.bind_some, nI_1]
      rfl
    · unfold lb_X12_reachOf_7
      simp only [w_gI w.1 86 11 1 rfl, w.2.1.1, Option.bind_some, if_neg (nI_nlt (Nat.le_refl (N_b N)) (show N_b N < 2 ^ 31 by omega))]
  rw [Option.bind_some, eb, loop, rcd_eq V _ hb (N_b N) (by omega)]
  rfl
theorem stuckC (w : WW N sem x l C M) : gI C 22 6 3 = some (x 13) := by rw [w_gI w.wc 22 6 3 rfl]; exact congrArg some w.1.2.2.1.2.2.2.1
theorem q_reach (w : WW N sem x l C M) (a : Int32) : QR (fn_X11_reach C 0 a) (fn_X12_reach M 86 a) C M := by
  obtain ⟨M1, p1, F1, w1⟩ := w.thr
  rcases w1.bas a with ⟨a1, a2⟩ | ⟨i, hi, rfl, a1, a2⟩
  · refine w1.qr (-1) ?_ ?_ (Fr.refl _ _) F1
    · unfold fn_X11_reach; simp only [g_0_1 w1.wc, k_3 w1.wc, Option.bind_some, a1, if_true]
    · unfold fn_X12_reach; simp only [p1, k_86 w1.wm, Option.bind_some, a2, if_true]
  · obtain ⟨C2, M2, e2, e2', G2, H2, w2⟩ := w1.begin
    obtain ⟨C3, M3, e3, e3', G3, H3, w3⟩ := w2.add (by decide) (Int32.toInt64 (bcI (nI (rcd N (x 13) i))))
    refine w3.qr (nI (rcd N (x 13) i)) ?_ ?_ ((G2.trans G3).mono stC_sc) (F1.trans ((H2.trans H3).mono stM_sm))
    · unfold fn_X11_reach; simp only [g_0_1 w1.wc, k_3 w1.wc, Option.bind_some, a1, if_neg one0, g_0_2 w1.wc, g_0_7 w1.wc, stuckC w1, k_9 w1.wc, reachedC w1.wc w1.cn w1.v (x 13) hi, g_0_11 w1.wc, k_77 w1.wc, e2, g_0_11 w2.wc, bc_eq, k_77 w2.wc, e3]
    · unfold fn_X12_reach; simp only [p1, k_86 w1.wm, Option.bind_some, a2, if_neg one0, reachOfM w1.2.1 w1.v 0 hi, or0, e2', bc_eq, k_86 w2.wm, e3']
theorem stp_reach {c : Nat} (hc : c ≤ 64) (a : Int32) : STEP c (fun h => fn_X11_reach h 0 a) (fun h => fn_X12_reach h 86 a) := STEP.of hc fun N sem x l C M w _ => q_reach w a
end RCH
