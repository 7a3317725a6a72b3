/-! ring as a question -/
theorem cnt_zero : ∀ n, cntB n (Nat.testBit 0) = 0
  | 0 => rfl
  | n + 1 => by
    show cntB n (Nat.testBit 0) + (Nat.testBit 0 n).toNat = 0
    rw [cnt_zero n, Nat.zero_testBit]
    rfl
theorem cnt_one {n e : Nat} (he : e < n) : cntB n (2 ^ e).testBit = 1 := by
  have := cnt_or (n := n) (v := 0) (e := e) (Nat.zero_testBit _) he
  rw [Nat.zero_or, cnt_zero] at this
  exact this
section RING3
variable {N : Net} {sem : Sem} {x : XX} {l : List Int64} {C M : aH} {u : Int32} {T m i s : Nat} {D E : Nat → Nat}
theorem ringM_body (V : NV N) {g : aH} (w : MW N sem x g) (hs : s < N_s N) : lb_X12_ring_14 86 (nI s, g) = if isBit (x 13) s = true then some (.inl (nI (s + 1), g)) else (fn_X12_goRing 10 (sI g 110 0 (nI s)) 86 (nI 1) (nI (2 ^ N_f N s))).bind fun h11 => some (.inl (nI (s + 1), h11)) := by
  have h6 := V.1
  have h8 := V.2.1
  have wf := w.1
  have mn := w.2.1
  obtain ⟨f1, f2, -, -⟩ := V.2.2.2 s hs
  have fr := freeM_eq w (show s < 31 by omega) 0
  rw [or0] at fr
  have wf2 : Wf (sI g 110 0 (nI s)) := wf
  have w0 : wI g 110 0 (nI s) = some (sI g 110 0 (nI s)) := wI_eq wf 110 8 rfl 0 (by decide) (by decide) _
  have a88 : aI (sI g 110 0 (nI s)) 88 14 (nI s) = some (nI (N_f N s)) := by
    rw [aI_eq wf2 88 14 8 rfl s (by omega) (by decide), hI_sI_r, if_neg (by decide), (mn.2.2.2 s hs).1]
  have bt' : (1 : Int32) <<< (nI (N_f N s) &&& 31) = nI (2 ^ N_f N s) := bitI_eq (show N_f N s < 8 by omega)
  unfold lb_X12_ring_14
  simp only [w_gI wf 86 11 2 rfl, mn.2.1, Option.bind_some, if_pos (nI_lt hs (show N_s N < 2 ^ 31 by omega)), k_86 wf, fr, g_86_40 wf, w0, g_86_4 wf2, a88, k_86 wf2, bt', nI_1]
  cases c : isBit (x 13) s
  · rw [if_neg (show ¬ b2 (!false) = 0 by decide), if_neg (by decide)]
    rfl
  · rw [if_pos (show b2 (!true) = 0 by decide), if_pos rfl]
theorem ringM_stop (V : NV N) {g : aH} (w : MW N sem x g) : lb_X12_ring_14 86 (nI (N_s N), g) = some (.inr g) := by
  have h8 := V.2.1
  unfold lb_X12_ring_14
  simp only [w_gI w.1 86 11 2 rfl, w.2.1.2.1, Option.bind_some, if_neg (nI_nlt (Nat.le_refl (N_s N)) (show N_s N < 2 ^ 31 by omega))]
theorem RgP.one (V : NV N) {g : aH} {bm : Nat} (hs : s < N_s N) (hb : hI g 86 42 = nI bm) (hb2 : bm ≤ 1000000) : RgP N (sI g 110 0 (nI s)) 1 s (N_t N s) (2 ^ N_f N s) bm := by
  obtain ⟨f1, f2, -, -⟩ := V.2.2.2 s hs
  refine ⟨Nat.le_refl _, hs, by rw [hI_row, if_pos rfl], ⟨s, hs, by rw [Nat.sub_self, hI_row, if_pos rfl], rfl⟩, Nat.pow_lt_pow_right (by decide) f1, cnt_one f1, ?_, hb2⟩
  rw [hI_sI_r, if_neg (by decide)]; exact hb
theorem ringM_none (w : MW N sem x M) (V : NV N) (hb : hI M 86 42 = nI 1000000) (hn : ∀ j, j < N_s N → 1000 ≤ rl N (x 13) j) : ∃ M', lp (lb_X12_ring_14 86) lpN (0, M) = some M' ∧ Fr rgM M M' ∧ hI M' 86 42 = nI 1000000 := by
  have h8 := V.2.1
  refine lp_inv (fun k (s : Int32 × aH) => s.1 = nI k ∧ Fr rgM M s.2 ∧ hI s.2 86 42 = nI 1000000) (fun M' => Fr rgM M M' ∧ hI M' 86 42 = nI 1000000) (N_s N) (by omega) ?_ ?_ ⟨rfl, Fr.refl _ _, hb⟩
  · rintro k ⟨s1, g⟩ hk ⟨rfl, F, r⟩
    dsimp only at F r
    left
    have wg := w.to (F.mono rgM_sm)
    rw [ringM_body V wg hk]
    cases c : isBit (x 13) k
    · rw [if_neg (by decide)]
      have wg2 : MW N sem x (sI g 110 0 (nI k)) := wg.to (((Fr.refl rgM g).sI _ rfl).mono rgM_sm)
      have hL := hn k hk
      rw [rl_eq c] at hL
      obtain ⟨h', e1, F', -, bm', b1, b3, b4⟩ := dfs_gen V (B := 1000) 10 (sI g 110 0 (nI k)) 1 (N_t N k) (2 ^ N_f N k) 1000000 (by decide) wg2 (RgP.one V hk r (Nat.le_refl _)) (by omega)
      refine ⟨(nI (k + 1), h'), by rw [e1]; rfl, rfl, F.trans (((Fr.refl rgM g).sI _ rfl).trans F'), ?_⟩
      rcases b4 with ⟨y, -⟩ | ⟨y1, y2, -⟩
      · rw [b1, y]
      · omega
    · rw [if_pos rfl]
      exact ⟨_, rfl, rfl, F, r⟩
  · rintro ⟨s1, g⟩ ⟨rfl, F, r⟩
    exact ⟨g, ringM_stop V (w.to (F.mono rgM_sm)), F, r⟩
/-- the ring that is told -/
def rgL (N : Net) (u : Int32) (f : Nat) : List Nat := f :: gpath N u (dst N u (N_f N f)) (dst N u (N_f N f) (N_t N f)) (N_t N f)
theorem ringM_hit (w : MW N sem x M) (V : NV N) (hb : hI M 86 42 = nI 1000000) {f : Nat} (hf : FstR N (x 13) (N_s N) f) : ∃ M', lp (lb_X12_ring_14 86) lpN (0, M) = some M' ∧ Fr rgM M M' ∧ hI M' 86 42 = nI (rl N (x 13) f) ∧ ∀ i, i < rl N (x 13) f → hI M' 111 i = nI ((rgL N (x 13) f).getD i 0) := by
  have h8 := V.2.1
  obtain ⟨f1, f2, f3, f4⟩ := hf
  obtain ⟨fo, fl⟩ := rl_open f2
  refine lp_inv (fun k (s : Int32 × aH) => s.1 = nI k ∧ Fr rgM M s.2 ∧ ((k ≤ f ∧ ∃ bm, hI s.2 86 42 = nI bm ∧ bm ≤ 1000000 ∧ rl N (x 13) f < bm) ∨ (f < k ∧ hI s.2 86 42 = nI (rl N (x 13) f) ∧ ∀ i, i < rl N (x 13) f → hI s.2 111 i = nI ((rgL N (x 13) f).getD i 0)))) (fun M' => Fr rgM M M' ∧ hI M' 86 42 = nI (rl N (x 13) f) ∧ ∀ i, i < rl N (x 13) f → hI M' 111 i = nI ((rgL N (x 13) f).getD i 0)) (N_s N) (by omega) ?_ ?_ ⟨rfl, Fr.refl _ _, Or.inl ⟨Nat.zero_le _, 1000000, hb, Nat.le_refl _, by omega⟩⟩
  · rintro k ⟨s1, g⟩ hk ⟨rfl, F, I⟩
    dsimp only at F I
    left
    have wg := w.to (F.mono rgM_sm)
    rw [ringM_body V wg hk]
    cases c : isBit (x 13) k
    · rw [if_neg (by decide)]
      have wg2 : MW N sem x (sI g 110 0 (nI k)) := wg.to (((Fr.refl rgM g).sI _ rfl).mono rgM_sm)
      have e111 : hI (sI g 110 0 (nI k)) 111 = hI g 111 := by rw [hI_sI_r, if_neg (by decide)]
      have FF : ∀ h', Fr rgM (sI g 110 0 (nI k)) h' → Fr rgM M h' := fun h' F' => F.trans (((Fr.refl rgM g).sI _ rfl).trans F')
      rcases I with ⟨I1, bm, I2, I3, I4⟩ | ⟨I1, I2, I3⟩
      · by_cases ck : k = f
        · subst ck
          obtain ⟨h', e1, F', -, q1, q2, q3⟩ := dfs_hit V hk c (ms := rl N (x 13) k) (fun s hs ho => by rw [← rl_eq ho]; exact f3 s hs) 10 (sI g 110 0 (nI k)) 1 (N_t N k) (2 ^ N_f N k) bm (by decide) wg2 (RgP.one V hk I2 I3) (by omega) (by omega) (fun b hb => by
            left
            by_cases be : N_f N k = b
            · exact be.symm
            · rw [Nat.testBit_two_pow_of_ne be] at hb; cases hb) (wk_0.mpr rfl) I4
          refine ⟨(nI (k + 1), h'), by rw [e1]; rfl, rfl, FF h' F', Or.inr ⟨by omega, q1, fun i hi => ?_⟩⟩
          dsimp only
          cases i with
          | zero =>
            rw [q2 0 (by decide), hI_row, if_pos rfl]; rfl
          | succ i =>
            rw [show i + 1 = 1 + i by omega, q3 i (by omega), Nat.add_comm 1 i]; rfl
        · have hL := f3 k (by omega)
          rw [rl_eq c] at hL
          obtain ⟨h', e1, F', -, bm', b1, b3, b4⟩ := dfs_gen V (B := rl N (x 13) f + 1) 10 (sI g 110 0 (nI k)) 1 (N_t N k) (2 ^ N_f N k) bm (by decide) wg2 (RgP.one V hk I2 I3) (by omega)
          refine ⟨(nI (k + 1), h'), by rw [e1]; rfl, rfl, FF h' F', Or.inl ⟨by omega, bm', b1, b3, ?_⟩⟩
          rcases b4 with ⟨y, -⟩ | ⟨y, -, -⟩ <;> omega
      · have hL := f4 k hk
        rw [rl_eq c] at hL
        obtain ⟨h', e1, F', -, bm', b1, b3, b4⟩ := dfs_gen V (B := rl N (x 13) f) 10 (sI g 110 0 (nI k)) 1 (N_t N k) (2 ^ N_f N k) (rl N (x 13) f) (by decide) wg2 (RgP.one V hk I2 (by omega)) (by omega)
        rcases b4 with ⟨y1, y2⟩ | ⟨y1, -, y3⟩
        · rw [e111] at y2
          refine ⟨(nI (k + 1), h'), by rw [e1]; rfl, rfl, FF h' F', Or.inr ⟨by omega, by rw [b1, y1], fun i hi => ?_⟩⟩
          dsimp only
          rw [y2]; exact I3 i hi
        · omega
    · rw [if_pos rfl]
      refine ⟨_, rfl, rfl, F, ?_⟩
      have : k ≠ f := fun q => by rw [q, fo] at c; cases c
      rcases I with ⟨I1, I2⟩ | ⟨I1, I2⟩
      · exact Or.inl ⟨by omega, I2⟩
      · exact Or.inr ⟨by omega, I2⟩
  · rintro ⟨s1, g⟩ ⟨rfl, F, I⟩
    rcases I with ⟨I1, -⟩ | ⟨-, I2⟩
    · omega
    · exact ⟨g, ringM_stop V (w.to (F.mono rgM_sm)), F, I2⟩
theorem tells_M (w : Wf M) (G : List Nat) {n : Nat} (hn : n ≤ 8) (hG : G.length = n) (t : ToM M []) (R : ∀ i, i < n → hI M 111 i = nI (G.getD i 0)) : ∀ k, k ≤ n → ∀ h, Fr stM M h → ∀ l', ToM h l' → l'.length = k → l' ++ (G.drop k).map tl = G.map tl → k < n → ∃ h', fn_X12_tell h 86 (Int32.toInt64 (hI h 111 k)) = some h' ∧ Fr stM M h' ∧ ∃ l2, ToM h' l2 ∧ l2.length = k + 1 ∧ l2 ++ (G.drop (k + 1)).map tl = G.map tl := by
  intro k hk h F l' t' hl' el hkn
  have wf := F.wf w
  have r : hI h 111 k = nI (G.getD k 0) := by rw [F.i 111 k rfl]; exact R k hkn
  obtain ⟨h', ea, Fa, ta⟩ := tellM wf t' (by omega) (tl (G.getD k 0))
  refine ⟨h', by rw [r]; exact ea, F.trans Fa, _, ta, by simp [hl'], ?_⟩
  rw [← el, List.drop_eq_getElem_cons (i := k) (l := G) (by omega), List.append_assoc]
  have : G.getD k 0 = G[k]'(by omega) := by simp [show k < G.length by omega]
  rw [this]
  rfl
theorem ringM_tells (w : Wf M) (G : List Nat) {n : Nat} (hn : n ≤ 8) (hG : G.length = n) (t : ToM M []) (hb : hI M 86 42 = nI n) (R : ∀ i, i < n → hI M 111 i = nI (G.getD i 0)) : ∃ M', lp (lb_X12_ring_80 86) lpN (0, M) = some (nI n, M') ∧ Fr stM M M' ∧ ToM M' (G.map tl) := by
  obtain ⟨⟨r, M'⟩, e, e1, F, T⟩ : ∃ r : Int32 × aH, lp (lb_X12_ring_80 86) lpN (0, M) = some r ∧ r.1 = nI n ∧ Fr stM M r.2 ∧ ToM r.2 (G.map tl) := by
    refine lp_inv (fun k (s : Int32 × aH) => s.1 = nI k ∧ Fr stM M s.2 ∧ ∃ l', ToM s.2 l' ∧ l'.length = k ∧ l' ++ (G.drop k).map tl = G.map tl) _ n (by omega) ?_ ?_ ⟨rfl, Fr.refl _ _, [], t, rfl, rfl⟩
    · rintro k ⟨s1, h⟩ hk ⟨rfl, F, l', t', hl', el⟩
      dsimp only at F t'
      left
      have wf := F.wf w
      obtain ⟨h', ea, Fa, l2, ta, hl2, el2⟩ := tells_M w G hn hG t R k (by omega) h F l' t' hl' el hk
      refine ⟨(nI (k + 1), h'), ?_, rfl, Fa, l2, ta, hl2, el2⟩
      unfold lb_X12_ring_80
      simp only [w_gI wf 86 11 42 rfl, (F.i 86 42 rfl).trans hb, Option.bind_some, if_pos (nI_lt hk (show n < 2 ^ 31 by omega)), g_86_41 wf, aI_eq wf 111 14 8 rfl k (by omega) (by decide), k_86 wf, ea, nI_1]
    · rintro ⟨s1, h⟩ ⟨rfl, F, l', t', hl', el⟩
      dsimp only at F t'
      have wf := F.wf w
      rw [List.drop_of_length_le (by omega), List.map_nil, List.append_nil] at el
      refine ⟨(nI n, h), ?_, rfl, F, by rw [← el]; exact t'⟩
      unfold lb_X12_ring_80
      simp only [w_gI wf 86 11 42 rfl, (F.i 86 42 rfl).trans hb, Option.bind_some, if_neg (nI_nlt (Nat.le_refl n) (show n < 2 ^ 31 by omega))]
  dsimp only at e1 F T
  subst e1
  exact ⟨M', e, F, T⟩
theorem q_ring (w : WW N sem x l C M) : QR (fn_X11_ring C 0) (fn_X12_ring M 86) C M := by
  obtain ⟨M1, p1, F1, w1⟩ := w.thr
  have h6 := w.v.1
  have h8 := w.v.2.1
  have wm := w1.wm
  have V := w.v
  have p2 := w_pI wm 86 11 42 1000000 rfl
  have F2 : Fr rgM M1 (sI M1 86 42 1000000) := (Fr.refl _ _).sI _ rfl
  have mw2 := w1.2.1.to (F2.mono rgM_sm)
  have hb : hI (sI M1 86 42 1000000) 86 42 = nI 1000000 := by rw [hI_row, if_pos rfl]; rfl
  have sR : ∀ j, rgM 92 j = false := fun _ => rfl
  obtain ⟨a, b, C', e1, F', I⟩ := ringC w1.1 V (fun C' F => by
    have cw := w1.1.to (F.mono tenC_sc)
    rw [w_gI cw.1 22 6 3 rfl]; exact congrArg some cw.2.2.1.2.2.2.1)
  have wC' : WW N sem x l C' M1 := w1.toC F' tenC_sc rfl (fun _ => rfl)
  rcases I with ⟨rfl, hn⟩ | ⟨f, rfl, rfl, hf⟩
  · obtain ⟨M3, e3, F3, b3⟩ := ringM_none mw2 V hb hn
    have w3 : WW N sem x l C' M3 := wC'.toM (F2.trans F3) rgM_sm rfl sR
    refine w3.qr (-2) ?_ ?_ (F'.mono tenC_sc) (F1.trans ((F2.trans F3).mono rgM_sm))
    · unfold fn_X11_ring
      simp only [e1, Option.bind_some, if_true]
    · unfold fn_X12_ring
      simp only [p1, p2, e3, Option.bind_some, w_gI w3.wm 86 11 42 rfl, b3]
      rw [if_pos (show nI 1000000 = 1000000 from rfl)]
  · have hf' := hf
    obtain ⟨f1, f2, f3, f4⟩ := hf'
    obtain ⟨fo, fl⟩ := rl_open f2
    obtain ⟨g1, g2, -, -⟩ := V.2.2.2 f f1
    have d := dst_FD (u := x 13) V g1
    have h5 := d.five V g1 (i := N_t N f) (by omega)
    obtain ⟨M3, e3, F3, b3, R3⟩ := ringM_hit mw2 V hb hf
    have w3 : WW N sem x l C' M3 := wC'.toM (F2.trans F3) rgM_sm rfl sR
    obtain ⟨C4, D, e4, F4, dD, R4⟩ := measureC w3.1 V (x 13) g1
    obtain rfl := dD.uniq V g1
    have w4 : WW N sem x l C4 M3 := w3.toC F4 tenC_sc rfl (fun _ => rfl)
    obtain ⟨C5, M5, e5, e5', G5, H5, w5⟩ := w4.begin
    obtain ⟨C6, ea, Fa, ta⟩ := toldAdd w5.wc w5.2.2.1 (by decide) (tl f)
    have cw6 := w5.1.to (Fa.mono stC_sc)
    obtain ⟨C7, e7, F7, t7⟩ := walkC cw6 V ta (by simp) d (fun i hi => by rw [Fa.i 10 i rfl, G5.i 10 i rfl]; exact R4 i hi) g2 h5
    have gl : (rgL N (x 13) f).length = rl N (x 13) f := by
      show (gpath N (x 13) _ _ _).length + 1 = _
      rw [gpath_len, fl]
    obtain ⟨M7, e7', F7', t7'⟩ := ringM_tells w5.wm (rgL N (x 13) f) (n := rl N (x 13) f) (by omega) gl w5.2.2.2.1 (by rw [H5.i 86 42 rfl]; exact b3) (fun i hi => by rw [H5.i 111 i rfl]; exact R3 i hi)
    refine ⟨nI (rl N (x 13) f), C7, M7, _, ?_, ?_, (F'.mono tenC_sc).trans ((F4.mono tenC_sc).trans ((G5.trans (Fa.trans F7)).mono stC_sc)), F1.trans (((F2.trans F3).mono rgM_sm).trans ((H5.trans F7').mono stM_sm)), t7, t7'⟩
    · have wc' := w3.wc
      have wc4 := w4.wc
      have wc5 := w5.wc
      have wc6 := cw6.1
      have ea' : fn_X3_add C5 77 (Int32.toInt64 (nI f)) = some C6 := ea
      have s6 : gI C6 22 6 3 = some (x 13) := by rw [w_gI wc6 22 6 3 rfl]; exact congrArg some cw6.2.2.1.2.2.2.1
      unfold fn_X11_ring
      simp only [e1, Option.bind_some]
      rw [if_neg (cu_m1 f (by omega))]
      simp only [g_0_2 wc', g_0_1 wc', g_3_3 wc', Option.bind_some, aI_eq wc' 4 14 8 rfl f (by omega) (by decide), (w3.cn.2.2.2 f f1).1, g_0_7 wc', stuckC w3, k_9 wc', e4, g_0_11 wc4, k_77 wc4, e5, g_0_11 wc5, k_77 wc5, ea', g_0_2 wc6, g_0_1 wc6, g_3_4 wc6, aI_eq wc6 5 14 8 rfl f (by omega) (by decide), (cw6.2.1.2.2.2 f f1).2.1, g_0_7 wc6, s6, g_0_11 wc6, k_9 wc6, e7]
    · unfold fn_X12_ring
      simp only [p1, p2, e3, Option.bind_some, w_gI w3.wm 86 11 42 rfl, b3]
      rw [if_neg (show ¬ nI (rl N (x 13) f) = 1000000 from fun q => by
        have := (nI_eq (a := rl N (x 13) f) (b := 1000000) (by omega) (by decide)).mp q
        omega)]
      simp only [e5', Option.bind_some, e7']
theorem stp_ring {c : Nat} (hc : c ≤ 64) : STEP c (fun h => fn_X11_ring h 0) (fun h => fn_X12_ring h 86) := STEP.of hc fun N sem x l C M w _ => q_ring w
end RING3
