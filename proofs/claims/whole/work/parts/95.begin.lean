/-! door: the class takes a text, begins a door -/
theorem rdRow {T : List Nat} : rdOK T (fun a b μ => RD 40 0 a b (nI 0) 0 μ) (row T (part T 6)) 0 := by
  have hg := gd_part (T := T) 6
  have hPd := rdPart (T := T) 6 38 (by decide) (by decide)
  have hcol := colOK (rk := RD 38) (v3 := nI 0) (C := 2) (B := 10) (by decide) (by decide) hPd hg
  have hr := rowOK (rk := RD 39) (v3 := nI 0) (B := 10) (C := 2) (P := part T 6) (by decide) (by decide) (fun μ p L Tp h1 h2 h3 h4 h5 => by rw [rd1]; exact hcol μ p L Tp h1 h2 h3 h4 h5) hg
  intro μ p L Tp h1 h2 h3 h4 h5
  exact hr μ p L Tp h1 h2 h3 (by omega) (by omega)
theorem tapeC {T : List Nat} {μ : Mem} (ht : tpC μ T) : ∃ r, (∀ b, b ≠ 3 → b ≠ 4 → b ≠ 5 → r.1 b = μ.1 b) ∧ r.2 = μ.2 ∧ match tapeR T with
    | .error e => f_X6_readTape μ = some (0, r) ∧ r.1 3 2 = nI e.1 ∧ r.1 3 3 = nI e.2
    | .ok q => f_X6_readTape μ = some (1, r) ∧ r.1 3 2 = 0 ∧ r.1 3 3 = -1 ∧ r.1 4 1 = nI q.2.1 ∧ r.1 4 2 = nI q.2.2.1 ∧ ∀ c t, c < q.2.1 → t < q.2.2.1 → r.1 5 (8 * t + c) = nI (q.2.2.2 c t) := by
  obtain ⟨M, hM⟩ : ∃ M, M = sI (sI (sI μ 3 4 (0 : Int32)) 3 2 (0 : Int32)) 3 3 (-1 : Int32) := ⟨_, rfl⟩
  have fM : frR μ M := by rw [hM]; exact frR.tr frR_3 (frR.tr frR_3 frR_3)
  have k4 : M.1 3 4 = nI 0 := by rw [hM, sI_sl (by decide), sI_sl (by decide), sI_same]; rfl
  have k1 : M.1 3 2 = 0 := by rw [hM, sI_sl (by decide), sI_same]
  have k2 : M.1 3 3 = -1 := by rw [hM, sI_same]
  have hg := gd_row (gd_part (T := T) 6) 0 (Nat.zero_le _)
  obtain ⟨r, fr, hr⟩ := rdRow M 0 0 0 (tp_R ht fM) k4 (Nat.zero_le _) (Nat.le_refl 0) (Nat.le_refl 0)
  simp only at hr
  have fmr := frR.tr fM fr
  unfold f_X6_readTape tapeR
  rw [← hM]
  cases hs : row T (part T 6) 0 with
  | error e =>
    rw [hs] at hr
    simp only at hr ⊢
    have hr1 : F_X6_readRow 0 0 0 M = some (0, r) := hr.1
    rw [hr1, bd_some, if_pos rfl]
    exact ⟨r, fun b h3 _ h5 => fmr.1 b h3 h5, fmr.2, rfl, hr.2⟩
  | ok q =>
    rw [hs] at hr hg
    simp only at hr ⊢
    obtain ⟨a1, a2, a3, a4, a5, a6⟩ := hr
    obtain ⟨g1, g2, g3, g4, g5, g6, g7⟩ := hg
    have hr1 : F_X6_readRow 0 0 0 M = some (1, r) := a1
    obtain ⟨s, e1, s4, fs⟩ := nextC (tp_R ht fmr) a3 g2
    rw [hr1, bd_some, if_neg (show ¬ (1 : Int32) = 0 by decide), e1, bd_some]
    have c := byv_none (T := T) ht.2.2 (q := nx T q.1)
    by_cases h : bq T (nx T q.1) = 256
    · rw [if_pos (c.mpr h), if_pos h]
      have s5 : s.1 3 5 = nI q.2.1 := by rw [fs.2.1 5 (by decide)]; exact a4
      have s6 : s.1 3 6 = nI q.2.2.1 := by rw [fs.2.1 6 (by decide)]; exact a5
      rw [s5, sI_pl (show (3 : Nat) ≠ 4 by decide), s6]
      refine ⟨_, fun b h3 h4 h5 => by rw [sI_pl h4, sI_pl h4, fs.1 b h3, fmr.1 b h3 h5], by rw [sI_2, sI_2, fs.2.2, fmr.2], rfl, ?_, ?_, ?_, sI_same _ _ _ _, fun c t hc ht2 => ?_⟩
      · rw [sI_pl (by decide), sI_pl (by decide), fs.2.1 2 (by decide), a2.1, k1]
      · rw [sI_pl (by decide), sI_pl (by decide), fs.2.1 3 (by decide), a2.2, k2]
      · rw [sI_sl (by decide), sI_same]
      · rw [sI_pl (by decide), sI_pl (by decide), fs.1 5 (by decide)]
        have := a6.2 (by omega) (by omega) c t hc ht2
        rw [Nat.zero_add, Nat.zero_add] at this
        exact this
    · rw [if_neg (fun z => h (c.mp z)), if_neg h, s4]
      refine ⟨sI (sI s 3 2 1) 3 3 (nI (nx T q.1)), fun b h3 _ h5 => by rw [sI_pl h3, sI_pl h3, fs.1 b h3, fmr.1 b h3 h5], by rw [sI_2, sI_2, fs.2.2, fmr.2], ?_, ?_, sI_same _ _ _ _⟩
      · unfold f_X6_refuse; rw [bd_some, bz_0]
      · rw [sI_sl (by decide), sI_same]; rfl
/-- counts of offsets with the least and the greatest -/
def loHi (M : Nat → Nat) (lo hi : Nat) : Prop := lo ≤ 9 ∧ hi ≤ 9 ∧ (((∀ q, q < 10 → M q = 0) ∧ lo = 9 ∧ hi = 0) ∨ (M lo ≠ 0 ∧ M hi ≠ 0 ∧ ∀ q, q < 10 → M q ≠ 0 → lo ≤ q ∧ q ≤ hi))
theorem loHi_inc {M : Nat → Nat} {lo hi o : Nat} (h : loHi M lo hi) (ho : o ≤ 9) : loHi (inc M o) (min lo o) (max hi o) := by
  obtain ⟨h1, h2, h3⟩ := h
  have hinc : ∀ q, inc M o q = if q = o then M q + 1 else M q := fun _ => rfl
  refine ⟨by omega, by omega, Or.inr ?_⟩
  rcases h3 with ⟨h0, rfl, rfl⟩ | ⟨a1, a2, a3⟩
  · rw [Nat.min_eq_right ho, Nat.max_eq_right (Nat.zero_le o)]
    refine ⟨by rw [hinc, if_pos rfl]; omega, by rw [hinc, if_pos rfl]; omega, fun q hq hn => ?_⟩
    rw [hinc] at hn
    by_cases e : q = o
    · omega
    · rw [if_neg e] at hn; exact absurd (h0 q hq) hn
  · have up : ∀ q, M q ≠ 0 → inc M o q ≠ 0 := fun q hq => by
      rw [hinc]
      by_cases e : q = o
      · rw [if_pos e]; omega
      · rw [if_neg e]; exact hq
    have oo : inc M o o ≠ 0 := by rw [hinc, if_pos rfl]; omega
    refine ⟨?_, ?_, fun q hq hn => ?_⟩
    · by_cases c : lo ≤ o
      · rw [Nat.min_eq_left c]; exact up lo a1
      · rw [Nat.min_eq_right (by omega)]; exact oo
    · by_cases c : o ≤ hi
      · rw [Nat.max_eq_left c]; exact up hi a2
      · rw [Nat.max_eq_right (by omega)]; exact oo
    · rw [hinc] at hn
      by_cases e : q = o
      · omega
      · rw [if_neg e] at hn
        have := a3 q hq hn
        omega
/-- what counting reads and writes in a door at a -/
def cntI (μ : Mem) (a : Nat) (D : DoorD) (M : Nat → Nat) (lo hi : Nat) : Prop := μ.1 (a + 1) 1 = nI (dW D) ∧ μ.1 (a + 1) 2 = nI (dH D) ∧ (∀ c r, c < dW D → r < dH D → μ.1 (a + 1 + 1) (8 * r + c) = nI (dC D c r)) ∧ (∀ o, o < 10 → μ.1 (a + 3) o = nI (M o)) ∧ μ.1 a 6 = nI lo ∧ μ.1 a 7 = nI hi ∧ loHi M lo hi
def cntF (μ r : Mem) (a : Nat) : Prop := (∀ b, b ≠ a → b ≠ a + 3 → r.1 b = μ.1 b) ∧ (∀ j, j ≠ 6 → j ≠ 7 → r.1 a j = μ.1 a j) ∧ r.2 = μ.2
theorem cntF.rf {μ : Mem} {a : Nat} : cntF μ μ a := ⟨fun _ _ _ => rfl, fun _ _ _ => rfl, rfl⟩
theorem cntF.tr {a b c : Mem} {k : Nat} (h1 : cntF a b k) (h2 : cntF b c k) : cntF a c k := ⟨fun q p1 p2 => (h2.1 q p1 p2).trans (h1.1 q p1 p2), fun q p1 p2 => (h2.2.1 q p1 p2).trans (h1.2.1 q p1 p2), h2.2.2.trans h1.2.2⟩
theorem ctC_in {a r : Nat} {D : DoorD} {K : Mem → Option Mem} (wd : WFd D) (hr : r < dH D) : ∀ (m k c B : Nat) (M : Nat → Nat) (lo hi : Nat) (μ : Mem), cntI μ a D M lo hi → (∀ q, M q ≤ B) → B + m ≤ 64 → c + m = dW D → m < k → ∃ μ' lo' hi', f_X0_countOffsets_L34 a (nI r) K k (nI c) μ = K μ' ∧ cntI μ' a D (ctR D r m c M) lo' hi' ∧ cntF μ μ' a := by
  have w2 := wd.2.1
  have w4 := wd.2.2.2.1
  have wc := wd.2.2.2.2.1
  intro m
  induction m with
  | zero =>
    intro k c B M lo hi μ hI hB hB2 hcm hk
    obtain ⟨k', rfl⟩ : ∃ k', k = k' + 1 := ⟨k - 1, by omega⟩
    exact ⟨μ, lo, hi, by rw [f_X0_countOffsets_L34, hI.1, if_pos (nI_le (by omega) (by omega))], hI, cntF.rf⟩
  | succ m ih =>
    intro k c B M lo hi μ hI hB hB2 hcm hk
    obtain ⟨k', rfl⟩ : ∃ k', k = k' + 1 := ⟨k - 1, by omega⟩
    obtain ⟨i1, i2, i3, i4, i5, i6, i7⟩ := id hI
    have ho := (wc c r (by omega) hr).1
    obtain ⟨o, hoe⟩ : ∃ o, o = offs (dC D c r) := ⟨_, rfl⟩
    rw [← hoe] at ho
    rw [f_X0_countOffsets_L34, i1, if_neg (nI_ge (by omega) (by omega)), offsetAt_eq wd i3 (by omega) hr, bd_some, ← hoe, rI_nI (by omega) (by decide), bi_some, i4 o (by omega), nI_s, wI_nI (by omega) (by decide), bi_some, sI_pl (show a ≠ a + 3 by omega), i5, sI_sl (show (7 : Nat) ≠ 6 by decide), sI_pl (show a ≠ a + 3 by omega), i6, nI_s]
    have e1 : iMin (nI lo) (nI o) = nI (min lo o) := by
      have := i7.1
      rw [iz_nat, iz_nat, iMin_iz (by omega) (by omega) (by omega) (by omega), iz_nat]; exact congrArg iz (by omega)
    have e2 : iMax (nI hi) (nI o) = nI (max hi o) := by
      have := i7.2.1
      rw [iz_nat, iz_nat, iMax_iz (by omega) (by omega) (by omega) (by omega), iz_nat]; exact congrArg iz (by omega)
    rw [e1, e2]
    obtain ⟨N, hN⟩ : ∃ N, N = sI (sI (sI μ (a + 3) o (nI (M o + 1))) a 6 (nI (min lo o))) a 7 (nI (max hi o)) := ⟨_, rfl⟩
    rw [← hN]
    have n1 : ∀ b, b ≠ a → b ≠ a + 3 → N.1 b = μ.1 b := fun b h1 h2 => by rw [hN, sI_pl h1, sI_pl h1, sI_pl h2]
    have hF : cntF μ N a := ⟨n1, fun j h6 h7 => by rw [hN, sI_sl h7, sI_sl h6, sI_pl (by omega)], by rw [hN]; rfl⟩
    have hI2 : cntI N a D (inc M o) (min lo o) (max hi o) := by
      refine ⟨by rw [n1 _ (by omega) (by omega)]; exact i1, by rw [n1 _ (by omega) (by omega)]; exact i2, fun c r hc hr => by rw [n1 _ (by omega) (by omega)]; exact i3 c r hc hr, fun q hq => ?_, by rw [hN, sI_sl (by decide), sI_same], by rw [hN, sI_same], loHi_inc i7 ho⟩
      rw [hN, sI_pl (by omega), sI_pl (by omega)]
      show _ = nI (if q = o then M q + 1 else M q)
      by_cases e : q = o
      · rw [e, sI_same, if_pos rfl]
      · rw [sI_sl e, if_neg e]; exact i4 q hq
    obtain ⟨μ', lo', hi', q1, q2, q3⟩ := ih k' (c + 1) (B + 1) (inc M o) _ _ N hI2 (inc_le hB) (by omega) (by omega) (by omega)
    refine ⟨μ', lo', hi', q1, ?_, cntF.tr hF q3⟩
    have hcr : ctR D r (m + 1) c M = ctR D r m (c + 1) (inc M o) := by rw [hoe]; rfl
    rw [hcr]; exact q2
theorem ctC_out {a : Nat} {D : DoorD} (wd : WFd D) : ∀ (m k r : Nat) (M : Nat → Nat) (lo hi : Nat) (μ : Mem), cntI μ a D M lo hi → (∀ q, M q ≤ 8 * r) → r + m = dH D → m < k → ∃ μ' lo' hi', f_X0_countOffsets_L21 a (fun μ9 => (some μ9)) k (nI r) μ = some μ' ∧ cntI μ' a D (ctO D m r M) lo' hi' ∧ cntF μ μ' a := by
  have w2 := wd.2.1
  have w4 := wd.2.2.2.1
  intro m
  induction m with
  | zero =>
    intro k r M lo hi μ hI hB hcm hk
    obtain ⟨k', rfl⟩ : ∃ k', k = k' + 1 := ⟨k - 1, by omega⟩
    exact ⟨μ, lo, hi, by rw [f_X0_countOffsets_L21, hI.2.1, if_pos (nI_le (by omega) (by omega))], hI, cntF.rf⟩
  | succ m ih =>
    intro k r M lo hi μ hI hB hcm hk
    obtain ⟨k', rfl⟩ : ∃ k', k = k' + 1 := ⟨k - 1, by omega⟩
    rw [f_X0_countOffsets_L21, hI.2.1, if_neg (nI_ge (by omega) (by omega))]
    obtain ⟨μ1, lo1, hi1, q2, q3, q4⟩ := ctC_in (K := fun μ8 => f_X0_countOffsets_L21 a (fun μ9 => (some μ9)) k' (nI r + (1 : Int32)) μ8) wd (show r < dH D by omega) (dW D) FU 0 (8 * r) M lo hi μ hI hB (by omega) (by omega) (show dW D < 8192 by omega)
    rw [show nI 0 = (0 : Int32) from rfl] at q2
    rw [q2, nI_s]
    have hle := ctR_le (D := D) (r := r) (dW D) 0 (8 * r) M hB
    obtain ⟨μ', lo', hi', t2, t3, t4⟩ := ih k' (r + 1) (ctR D r (dW D) 0 M) lo1 hi1 μ1 q3 (fun q => by have := hle q; omega) (by omega) (by omega)
    exact ⟨μ', lo', hi', t2, t3, cntF.tr q4 t4⟩
theorem beginC {d pw ph tn w h : Nat} {f : Pic} {μ : Mem} (hd : d < 8) (wd : WFd (w, h, f, pw, ph, tn, none)) (h1 : μ.1 4 1 = nI w) (h2 : μ.1 4 2 = nI h) (h5 : ∀ c t, c < w → t < h → μ.1 5 (8 * t + c) = nI (f c t)) : ∃ r, f_X0_begin (56 + 4 * d) 4 (nI pw) (nI ph) (nI tn) μ = some r ∧ Cd r (56 + 4 * d) (w, h, f, pw, ph, tn, none) ∧ (∀ b, b < 56 + 4 * d ∨ 60 + 4 * d ≤ b → r.1 b = μ.1 b) ∧ r.2 = μ.2 := by
  obtain ⟨a, ha⟩ : ∃ a, a = 56 + 4 * d := ⟨_, rfl⟩
  rw [← ha]
  have w2 : w ≤ 8 := wd.2.1
  have w4 : h ≤ 8 := wd.2.2.2.1
  unfold f_X0_begin f_X1_copyFrom
  obtain ⟨c, ec, c1, c2, c3, -⟩ := cp0 (μ := sI μ a 2 1) (n0 := 64) (a := 4 + 1) (n1 := 64) (b := a + 1 + 1) (n := 64) (by decide) (by decide) (by decide)
  rw [ec, bi_some]
  have k1 : c.1 4 1 = nI w := by rw [c2 4 (by omega), sI_pl (by omega)]; exact h1
  have k2 : c.1 4 2 = nI h := by rw [c2 4 (by omega), sI_pl (by omega)]; exact h2
  rw [k1, sI_pl (show (4 : Nat) ≠ a + 1 by omega), k2, bi_some]
  unfold f_X0_notMade
  rw [bi_some]
  obtain ⟨N, hN⟩ : ∃ N, N = sI (sI (sI (sI (sI (sI (sI (sI (sI c (a + 1) 1 (nI w)) (a + 1) 2 (nI h)) a 3 (nI pw)) a 4 (nI ph)) a 5 (nI tn)) a 8 (-1)) a 9 (-1)) a 10 (-1)) a 11 (-1) := ⟨_, rfl⟩
  rw [← hN]
  have n1 : ∀ b, b ≠ a → b ≠ a + 1 → N.1 b = c.1 b := fun b p1 p2 => by rw [hN, sI_pl p1, sI_pl p1, sI_pl p1, sI_pl p1, sI_pl p1, sI_pl p1, sI_pl p1, sI_pl p2, sI_pl p2]
  unfold f_X0_countOffsets
  obtain ⟨F, eF, F1, F2, F3⟩ := fillI (n0 := 10) (b := a + 3) (v := 0) (μ := N) (by omega)
  rw [eF, bi_some]
  obtain ⟨G, hG⟩ : ∃ G, G = sI (sI F a 6 (9 : Int32)) a 7 (0 : Int32) := ⟨_, rfl⟩
  rw [← hG]
  have g1 : ∀ b, b ≠ a → G.1 b = F.1 b := fun b p => by rw [hG, sI_pl p, sI_pl p]
  have gN : ∀ j, j ≠ 6 → j ≠ 7 → G.1 a j = N.1 a j := fun j p6 p7 => by rw [hG, sI_sl p7, sI_sl p6, F2 a (by omega)]
  have hI : cntI G a (w, h, f, pw, ph, tn, none) (fun _ => 0) 9 0 := by
    refine ⟨?_, ?_, fun x y hx hy => ?_, fun o ho => ?_, ?_, ?_, by decide, by decide, Or.inl ⟨fun _ _ => rfl, rfl, rfl⟩⟩
    · rw [g1 _ (by omega), F2 _ (by omega), hN]; simp [sI_at]
    · rw [g1 _ (by omega), F2 _ (by omega), hN]; simp [sI_at]
    · have hx' : x < w := hx
      have hy' : y < h := hy
      rw [g1 _ (by omega), F2 _ (by omega), n1 _ (by omega) (by omega), c3 (8 * y + x) (by omega), sI_pl (by omega)]
      exact h5 x y hx' hy'
    · rw [g1 _ (by omega), F3 o ho]; rfl
    · rw [hG, sI_sl (by decide), sI_same]; rfl
    · rw [hG, sI_same]; rfl
  obtain ⟨r, lo, hi, er, hr, hf⟩ := ctC_out (a := a) wd h FU 0 (fun _ => 0) 9 0 G hI (fun q => Nat.le_refl 0) (show 0 + h = h by omega) (show h < 8192 by omega)
  rw [show nI 0 = (0 : Int32) from rfl] at er
  rw [er, bi_some]
  obtain ⟨i1, i2, i3, i4, i5, i6, i7⟩ := hr
  have rN : ∀ j, j ≠ 6 → j ≠ 7 → r.1 a j = N.1 a j := fun j p6 p7 => by rw [hf.2.1 j p6 p7, gN j p6 p7]
  have i4' : ∀ o, o < 10 → r.1 (a + 3) o = nI (cnt (w, h, f, pw, ph, tn, none) o) := fun o ho => by
    rw [i4 o ho]
    congr 1
    exact ctO_cnt
  have lh : loHi (cnt (w, h, f, pw, ph, tn, none)) lo hi := by
    have : ctO (w, h, f, pw, ph, tn, none) h 0 (fun _ => 0) = cnt (w, h, f, pw, ph, tn, none) := by funext o; exact ctO_cnt
    rw [this] at i7; exact i7
  obtain ⟨a0, ha0, hla⟩ := least_ex wd
  obtain ⟨l1, l2, l3⟩ := lh
  rcases l3 with ⟨l4, -, -⟩ | ⟨l4, l5, l6⟩
  · exact absurd (l4 a0 ha0) hla.1
  · refine ⟨r, rfl, ⟨?_, i1, i2, i3, ?_, ?_, ?_, i4', ⟨lo, by omega, ⟨l4, fun q hq => ?_⟩, i5⟩, ⟨hi, by omega, ⟨l5, fun q hq hq2 => ?_⟩, i6⟩, ?_⟩, fun b hb => ?_, ?_⟩
    · rw [rN 2 (by decide) (by decide), hN]
      simp [sI_at]
      rw [c2 a (by omega), sI_same]
    · rw [rN 3 (by decide) (by decide), hN]; simp [sI_at]
    · rw [rN 4 (by decide) (by decide), hN]; simp [sI_at]
    · rw [rN 5 (by decide) (by decide), hN]; simp [sI_at]
    · apply Classical.byContradiction; intro z; have := (l6 q (by omega) z).1; omega
    · apply Classical.byContradiction; intro z; have := (l6 q hq2 z).2; omega
    · show r.1 a 8 = -1 ∧ r.1 a 9 = -1 ∧ r.1 a 10 = -1 ∧ r.1 a 11 = -1
      rw [rN 8 (by decide) (by decide), rN 9 (by decide) (by decide), rN 10 (by decide) (by decide), rN 11 (by decide) (by decide), hN]
      exact ⟨by simp [sI_at], by simp [sI_at], by simp [sI_at], by simp [sI_at]⟩
    · rw [hf.1 b (by omega) (by omega), g1 b (by omega), F2 b (by omega), n1 b (by omega) (by omega), c2 b (by omega), sI_pl (by omega)]
    · rw [hf.2.2, hG]
      show F.2 = μ.2
      rw [F1, hN]
      show c.2 = μ.2
      rw [c1]; rfl
