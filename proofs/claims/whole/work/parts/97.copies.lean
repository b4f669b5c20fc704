/-! door: the model's copies -/
def ptM (μ : Mem) (w h : Nat) (f : Pic) : Prop := μ.1 0 32 = nI w ∧ μ.1 0 33 = nI h ∧ ∀ c t, c < w → t < h → μ.1 25 (8 * t + c) = nI (f c t)
def colM (μ : Mem) (j w h : Nat) (f : Pic) : Prop := μ.1 30 j = nI w ∧ μ.1 31 j = nI h ∧ ∀ c t, c < w → t < h → μ.1 32 (64 * j + 8 * t + c) = nI (f c t)
def rowM (μ : Mem) (j w h : Nat) (f : Pic) : Prop := μ.1 27 j = nI w ∧ μ.1 28 j = nI h ∧ ∀ c t, c < w → t < h → μ.1 29 (64 * j + 8 * t + c) = nI (f c t)
theorem i8 (y c : Nat) : (8 : Int32) * nI y + nI c = nI (8 * y + c) := by rw [show (8 : Int32) = nI 8 from rfl, pk_mul, nI_add]
theorem rpM_in {w t y : Nat} {K : Mem → Option Mem} {g : Nat → Int32} (hw : 1 ≤ w) (hwt : t * w ≤ 8) (hy : y < 8) : ∀ (m n a : Nat) (μ : Mem), a + m = t * w → m < n → w ≤ a → μ.1 0 32 = nI w → (∀ c, c < a → μ.1 25 (8 * y + c) = g (c % w)) → ∃ r, f_X10_repeats_L34 (nI t) (nI y) K n (nI a) μ = K r ∧ (∀ b, b ≠ 25 → r.1 b = μ.1 b) ∧ (∀ i, i < 8 * y ∨ 8 * y + 8 ≤ i → r.1 25 i = μ.1 25 i) ∧ (∀ c, c < t * w → r.1 25 (8 * y + c) = g (c % w)) := by
  intro m
  induction m with
  | zero =>
    intro n a μ ha hn hwa h32 hg
    obtain ⟨n', rfl⟩ : ∃ n', n = n' + 1 := ⟨n - 1, by omega⟩
    exact ⟨μ, by rw [f_X10_repeats_L34, h32, pk_mul, if_pos (nI_le (by omega) (by omega))], fun _ _ => rfl, fun _ _ => rfl, fun c hc => hg c (by omega)⟩
  | succ m ih =>
    intro n a μ ha hn hwa h32 hg
    obtain ⟨n', rfl⟩ : ∃ n', n = n' + 1 := ⟨n - 1, by omega⟩
    have e1 : nI (8 * y + a) - nI w = nI (8 * y + a - w) := by rw [iz_nat, iz_nat, iz_sub, iz_nat]; exact congrArg iz (by omega)
    rw [f_X10_repeats_L34, h32, pk_mul, if_neg (nI_ge (by omega) (by omega)), i8, e1, rI_nI (by omega) (by decide), bi_some, wI_nI (by omega) (by decide), bi_some, nI_s]
    obtain ⟨r, e, r1, r2, r3⟩ := ih n' (a + 1) (sI μ 25 (8 * y + a) (μ.1 25 (8 * y + a - w))) (by omega) (by omega) (by omega) (by rw [sI_pl (by decide)]; exact h32) (fun c hc => by
      by_cases e2 : c = a
      · rw [e2, sI_same]
        have := hg (a - w) (by omega)
        rw [show 8 * y + (a - w) = 8 * y + a - w by omega] at this
        rw [this, show a % w = (a - w) % w from Nat.mod_eq_sub_mod hwa]
      · rw [sI_sl (by omega)]; exact hg c (by omega))
    exact ⟨r, e, fun b hb => by rw [r1 b hb, sI_pl hb], fun i hi => by rw [r2 i hi, sI_sl (by omega)], r3⟩
theorem rpM_out {w t h : Nat} {K : Mem → Option Mem} (hw : 1 ≤ w) (ht : 1 ≤ t) (hwt : t * w ≤ 8) (hh : h ≤ 8) : ∀ (m n y : Nat) (μ : Mem), y + m = h → m < n → μ.1 0 32 = nI w → μ.1 0 33 = nI h → ∃ r, f_X10_repeats_L20 (nI t) K n (nI y) μ = K r ∧ (∀ b, b ≠ 25 → r.1 b = μ.1 b) ∧ (∀ i, i < 8 * y → r.1 25 i = μ.1 25 i) ∧ (∀ c k, y ≤ k → k < h → c < t * w → r.1 25 (8 * k + c) = μ.1 25 (8 * k + c % w)) := by
  intro m
  induction m with
  | zero =>
    intro n y μ hy hn h32 h33
    obtain ⟨n', rfl⟩ : ∃ n', n = n' + 1 := ⟨n - 1, by omega⟩
    exact ⟨μ, by rw [f_X10_repeats_L20, h33, if_pos (nI_le (by omega) (by omega))], fun _ _ => rfl, fun _ _ => rfl, fun c k h1 h2 => by omega⟩
  | succ m ih =>
    intro n y μ hy hn h32 h33
    obtain ⟨n', rfl⟩ : ∃ n', n = n' + 1 := ⟨n - 1, by omega⟩
    have hwl : w ≤ t * w := Nat.le_mul_of_pos_left _ (by omega)
    rw [f_X10_repeats_L20, h33, if_neg (nI_ge (by omega) (by omega)), h32]
    obtain ⟨q, e, q1, q2, q3⟩ := rpM_in (w := w) (t := t) (y := y) (g := fun c => μ.1 25 (8 * y + c)) (K := fun μ6 => f_X10_repeats_L20 (nI t) K n' (nI y + (1 : Int32)) μ6) hw hwt (by omega) (t * w - w) FU w μ (by omega) (show t * w - w < 8192 by omega) (Nat.le_refl w) h32 (fun c hc => by
      show μ.1 25 (8 * y + c) = μ.1 25 (8 * y + c % w)
      rw [Nat.mod_eq_of_lt hc])
    rw [e, nI_s]
    obtain ⟨r, e2, r1, r2, r3⟩ := ih n' (y + 1) q (by omega) (by omega) (by rw [q1 0 (by decide)]; exact h32) (by rw [q1 0 (by decide)]; exact h33)
    refine ⟨r, e2, fun b hb => by rw [r1 b hb, q1 b hb], fun i hi => by rw [r2 i (by omega), q2 i (by omega)], fun c k h1 h2 h3 => ?_⟩
    have hm : c % w < w := Nat.mod_lt _ (by omega)
    by_cases ek : k = y
    · subst ek
      rw [r2 _ (by omega), q3 c h3]
    · rw [r3 c k (by omega) h2 h3, q2 _ (by omega)]
theorem repeatsM {w t h : Nat} {v2 : Int32} {f : Pic} {μ : Mem} (hw : 1 ≤ w) (ht : 1 ≤ t) (ht9 : t ≤ 9) (hw8 : w ≤ 8) (hh : h ≤ 8) (hp : ptM μ w h f) (h28 : μ.1 0 28 = 0) : if w * t ≤ 8 then ∃ r, f_X10_repeats (nI t) v2 μ = some r ∧ ptM r (w * t) h (rep f w) ∧ (∀ b, b ≠ 25 → b ≠ 0 → r.1 b = μ.1 b) ∧ (∀ i, i ≠ 32 → r.1 0 i = μ.1 0 i) else f_X10_repeats (nI t) v2 μ = some (sI (sI μ 0 28 3) 0 29 v2) := by
  obtain ⟨p1, p2, p3⟩ := hp
  have hm : w * t ≤ 72 := Nat.le_trans (Nat.mul_le_mul hw8 ht9) (by decide)
  unfold f_X10_repeats
  rw [p1, pk_mul, Nat.mul_comm t w]
  by_cases h8 : w * t ≤ 8
  · rw [if_pos ((le8 (by omega)).mpr h8), if_pos h8]
    obtain ⟨r, e, r1, r2, r3⟩ := rpM_out (w := w) (t := t) (h := h) (K := fun μ7 => (some (sI μ7 0 32 ((μ7.1 0 32) * nI t)))) hw ht (by rw [Nat.mul_comm]; exact h8) hh h FU 0 μ (by omega) (show h < 8192 by omega) p1 p2
    rw [show nI 0 = (0 : Int32) from rfl] at e
    rw [e, r1 0 (by decide), p1, pk_mul]
    refine ⟨_, rfl, ⟨sI_same _ _ _ _, by rw [sI_sl (by decide), r1 0 (by decide)]; exact p2, fun c k hc hk => ?_⟩, fun b hb h0 => by rw [sI_pl h0, r1 b hb], fun i hi => by rw [sI_sl hi, r1 0 (by decide)]⟩
    rw [sI_pl (by decide), r3 c k (Nat.zero_le _) hk (by rw [Nat.mul_comm]; exact hc)]
    exact p3 (c % w) k (Nat.mod_lt _ hw) hk
  · rw [if_neg (fun z => h8 ((le8 (by omega)).mp z)), if_neg h8, failM h28, bi_some]
theorem ix {j y c : Nat} : nI (64 * j) + (8 : Int32) * nI y + nI c = nI (64 * j + 8 * y + c) := by rw [show (8 : Int32) = nI 8 from rfl, pk_mul, nI_add, nI_add]
theorem cp_in {j h0 y w : Nat} {K : Mem → Option Mem} (hj : j < 8) (hw : w ≤ 8) (hy : h0 + y < 8) : ∀ (m n c : Nat) (μ : Mem), c + m = w → m < n → μ.1 0 32 = nI w → ∃ r, f_X10_comes_L231 (nI (64 * j)) (nI h0) (nI y) K n (nI c) μ = K r ∧ (∀ b, b ≠ 32 → r.1 b = μ.1 b) ∧ (∀ i, i < 64 * j + 8 * (h0 + y) + c ∨ 64 * j + 8 * (h0 + y) + w ≤ i → r.1 32 i = μ.1 32 i) ∧ (∀ k, c ≤ k → k < w → r.1 32 (64 * j + 8 * (h0 + y) + k) = μ.1 25 (8 * y + k)) := by
  intro m
  induction m with
  | zero =>
    intro n c μ hc hn h32
    obtain ⟨n', rfl⟩ : ∃ n', n = n' + 1 := ⟨n - 1, by omega⟩
    exact ⟨μ, by rw [f_X10_comes_L231, h32, if_pos (nI_le (by omega) (by omega))], fun _ _ => rfl, fun _ _ => rfl, fun k h1 h2 => by omega⟩
  | succ m ih =>
    intro n c μ hc hn h32
    obtain ⟨n', rfl⟩ : ∃ n', n = n' + 1 := ⟨n - 1, by omega⟩
    rw [f_X10_comes_L231, h32, if_neg (nI_ge (by omega) (by omega)), i8, rI_nI (by omega) (by decide), bi_some, nI_add, ix, wI_nI (by omega) (by decide), bi_some, nI_s]
    obtain ⟨r, e, r1, r2, r3⟩ := ih n' (c + 1) (sI μ 32 (64 * j + 8 * (h0 + y) + c) (μ.1 25 (8 * y + c))) (by omega) (by omega) (by rw [sI_pl (by decide)]; exact h32)
    refine ⟨r, e, fun b hb => by rw [r1 b hb, sI_pl hb], fun i hi => by rw [r2 i (by omega), sI_sl (by omega)], fun k h1 h2 => ?_⟩
    by_cases ek : k = c
    · rw [ek, r2 _ (by omega), sI_same]
    · rw [r3 k (by omega) h2, sI_pl (by decide)]
theorem cp_out {j h0 w h : Nat} {K : Mem → Option Mem} (hj : j < 8) (hw : w ≤ 8) (hh : h0 + h ≤ 8) : ∀ (m n y : Nat) (μ : Mem), y + m = h → m < n → μ.1 0 32 = nI w → μ.1 0 33 = nI h → ∃ r, f_X10_comes_L220 (nI (64 * j)) (nI h0) K n (nI y) μ = K r ∧ (∀ b, b ≠ 32 → r.1 b = μ.1 b) ∧ (∀ i, i < 64 * j + 8 * (h0 + y) ∨ 64 * j + 8 * (h0 + h) ≤ i → r.1 32 i = μ.1 32 i) ∧ (∀ c k, y ≤ k → k < h → c < w → r.1 32 (64 * j + 8 * (h0 + k) + c) = μ.1 25 (8 * k + c)) := by
  intro m
  induction m with
  | zero =>
    intro n y μ hy hn h32 h33
    obtain ⟨n', rfl⟩ : ∃ n', n = n' + 1 := ⟨n - 1, by omega⟩
    exact ⟨μ, by rw [f_X10_comes_L220, h33, if_pos (nI_le (by omega) (by omega))], fun _ _ => rfl, fun _ _ => rfl, fun c k h1 h2 => by omega⟩
  | succ m ih =>
    intro n y μ hy hn h32 h33
    obtain ⟨n', rfl⟩ : ∃ n', n = n' + 1 := ⟨n - 1, by omega⟩
    rw [f_X10_comes_L220, h33, if_neg (nI_ge (by omega) (by omega))]
    obtain ⟨q, e, q1, q2, q3⟩ := cp_in (j := j) (h0 := h0) (y := y) (w := w) (K := fun μ23 => f_X10_comes_L220 (nI (64 * j)) (nI h0) K n' (nI y + (1 : Int32)) μ23) hj hw (by omega) w FU 0 μ (by omega) (show w < 8192 by omega) h32
    rw [show nI 0 = (0 : Int32) from rfl] at e
    rw [e, nI_s]
    obtain ⟨r, e2, r1, r2, r3⟩ := ih n' (y + 1) q (by omega) (by omega) (by rw [q1 0 (by decide)]; exact h32) (by rw [q1 0 (by decide)]; exact h33)
    refine ⟨r, e2, fun b hb => by rw [r1 b hb, q1 b hb], fun i hi => by rw [r2 i (by omega), q2 i (by omega)], fun c k h1 h2 h3 => ?_⟩
    by_cases ek : k = y
    · subst ek
      rw [r2 _ (by omega), q3 c (by omega) h3]
    · rw [r3 c k (by omega) h2 h3, q1 25 (by decide)]
theorem en_in {j y w0 w : Nat} {K : Mem → Option Mem} (hj : j < 8) (hw : w0 + w ≤ 8) (hy : y < 8) : ∀ (m n c : Nat) (μ : Mem), c + m = w → m < n → μ.1 0 44 = nI j → μ.1 30 j = nI w → ∃ r, f_X10_ends_L116 (nI (64 * j)) (nI w0) (nI y) K n (nI c) μ = K r ∧ (∀ b, b ≠ 29 → r.1 b = μ.1 b) ∧ (∀ i, i < 64 * j + 8 * y + w0 + c ∨ 64 * j + 8 * y + w0 + w ≤ i → r.1 29 i = μ.1 29 i) ∧ (∀ k, c ≤ k → k < w → r.1 29 (64 * j + 8 * y + w0 + k) = μ.1 32 (64 * j + 8 * y + k)) := by
  intro m
  induction m with
  | zero =>
    intro n c μ hc hn h44 h30
    obtain ⟨n', rfl⟩ : ∃ n', n = n' + 1 := ⟨n - 1, by omega⟩
    exact ⟨μ, by rw [f_X10_ends_L116, h44, rI_nI hj (by decide), bi_some, h30, if_pos (nI_le (by omega) (by omega))], fun _ _ => rfl, fun _ _ => rfl, fun k h1 h2 => by omega⟩
  | succ m ih =>
    intro n c μ hc hn h44 h30
    obtain ⟨n', rfl⟩ : ∃ n', n = n' + 1 := ⟨n - 1, by omega⟩
    have e2 : nI (64 * j) + (8 : Int32) * nI y + nI w0 + nI c = nI (64 * j + 8 * y + w0 + c) := by rw [ix, nI_add]
    rw [f_X10_ends_L116, h44, rI_nI hj (by decide), bi_some, h30, if_neg (nI_ge (by omega) (by omega)), ix, rI_nI (by omega) (by decide), bi_some, e2, wI_nI (by omega) (by decide), bi_some, nI_s]
    obtain ⟨r, e, r1, r2, r3⟩ := ih n' (c + 1) (sI μ 29 (64 * j + 8 * y + w0 + c) (μ.1 32 (64 * j + 8 * y + c))) (by omega) (by omega) (by rw [sI_pl (by decide)]; exact h44) (by rw [sI_pl (by decide)]; exact h30)
    refine ⟨r, e, fun b hb => by rw [r1 b hb, sI_pl hb], fun i hi => by rw [r2 i (by omega), sI_sl (by omega)], fun k h1 h2 => ?_⟩
    by_cases ek : k = c
    · rw [ek, r2 _ (by omega), sI_same]
    · rw [r3 k (by omega) h2, sI_pl (by decide)]
theorem en_out {j w0 w h : Nat} {K : Mem → Option Mem} (hj : j < 8) (hw : w0 + w ≤ 8) (hh : h ≤ 8) : ∀ (m n y : Nat) (μ : Mem), y + m = h → m < n → μ.1 0 44 = nI j → μ.1 30 j = nI w → μ.1 31 j = nI h → ∃ r, f_X10_ends_L100 (nI (64 * j)) (nI w0) K n (nI y) μ = K r ∧ (∀ b, b ≠ 29 → r.1 b = μ.1 b) ∧ (∀ i, (∀ k c, y ≤ k → k < h → c < w → i ≠ 64 * j + 8 * k + w0 + c) → r.1 29 i = μ.1 29 i) ∧ (∀ c k, y ≤ k → k < h → c < w → r.1 29 (64 * j + 8 * k + w0 + c) = μ.1 32 (64 * j + 8 * k + c)) := by
  intro m
  induction m with
  | zero =>
    intro n y μ hy hn h44 h30 h31
    obtain ⟨n', rfl⟩ : ∃ n', n = n' + 1 := ⟨n - 1, by omega⟩
    exact ⟨μ, by rw [f_X10_ends_L100, h44, rI_nI hj (by decide), bi_some, h31, if_pos (nI_le (by omega) (by omega))], fun _ _ => rfl, fun _ _ => rfl, fun c k h1 h2 => by omega⟩
  | succ m ih =>
    intro n y μ hy hn h44 h30 h31
    obtain ⟨n', rfl⟩ : ∃ n', n = n' + 1 := ⟨n - 1, by omega⟩
    rw [f_X10_ends_L100, h44, rI_nI hj (by decide), bi_some, h31, if_neg (nI_ge (by omega) (by omega))]
    obtain ⟨q, e, q1, q2, q3⟩ := en_in (j := j) (y := y) (w0 := w0) (w := w) (K := fun μ12 => f_X10_ends_L100 (nI (64 * j)) (nI w0) K n' (nI y + (1 : Int32)) μ12) hj hw (by omega) w FU 0 μ (by omega) (show w < 8192 by omega) h44 h30
    rw [show nI 0 = (0 : Int32) from rfl] at e
    rw [e, nI_s]
    obtain ⟨r, e2, r1, r2, r3⟩ := ih n' (y + 1) q (by omega) (by omega) (by rw [q1 0 (by decide)]; exact h44) (by rw [q1 30 (by decide)]; exact h30) (by rw [q1 31 (by decide)]; exact h31)
    refine ⟨r, e2, fun b hb => by rw [r1 b hb, q1 b hb], fun i hi => ?_, fun c k h1 h2 h3 => ?_⟩
    · rw [r2 i (fun k c a1 a2 a3 => hi k c (by omega) a2 a3), q2 i ?_]
      apply Classical.byContradiction
      intro z
      exact hi y (i - (64 * j + 8 * y + w0)) (Nat.le_refl y) (by omega) (by omega) (by omega)
    · by_cases ek : k = y
      · subst ek
        rw [r2 _ (fun k2 c2 a1 a2 a3 => by omega), q3 c (by omega) h3]
      · rw [r3 c k (by omega) h2 h3, q1 32 (by decide)]
theorem rip_L {j : Nat} {K : Mem → Option Mem} (hj : j < 8) : ∀ (m n k : Nat) (μ : Mem), k + m = 64 → m < n → μ.1 0 44 = nI j → ∃ r, f_X10_rowIsPart_L28 K n (nI k) μ = K r ∧ (∀ b, b ≠ 25 → r.1 b = μ.1 b) ∧ (∀ i, i < k → r.1 25 i = μ.1 25 i) ∧ (∀ i, k ≤ i → i < 64 → r.1 25 i = μ.1 29 (64 * j + i)) := by
  intro m
  induction m with
  | zero =>
    intro n k μ hk hn h44
    obtain ⟨n', rfl⟩ : ∃ n', n = n' + 1 := ⟨n - 1, by omega⟩
    have : k = 64 := by omega
    subst this
    exact ⟨μ, by rw [f_X10_rowIsPart_L28, if_pos (by decide)], fun _ _ => rfl, fun _ _ => rfl, fun i h1 h2 => by omega⟩
  | succ m ih =>
    intro n k μ hk hn h44
    obtain ⟨n', rfl⟩ : ∃ n', n = n' + 1 := ⟨n - 1, by omega⟩
    have hk64 : ¬ (64 : Int32) ≤ nI k := nI_ge (b := 64) (by omega) (by omega)
    have e1 : (64 : Int32) * nI j + nI k = nI (64 * j + k) := by rw [show (64 : Int32) = nI 64 from rfl, pk_mul, nI_add]
    rw [f_X10_rowIsPart_L28, if_neg hk64, h44, e1, rI_nI (by omega) (by decide), bi_some, wI_nI (by omega) (by decide), bi_some, nI_s]
    obtain ⟨r, e, r1, r2, r3⟩ := ih n' (k + 1) (sI μ 25 k (μ.1 29 (64 * j + k))) (by omega) (by omega) (by rw [sI_pl (by decide)]; exact h44)
    refine ⟨r, e, fun b hb => by rw [r1 b hb, sI_pl hb], fun i hi => by rw [r2 i (by omega), sI_sl (by omega)], fun i h1 h2 => ?_⟩
    by_cases ek : i = k
    · rw [ek, r2 k (by omega), sI_same]
    · rw [r3 i (by omega) h2, sI_pl (by decide)]
theorem ripM {j w h : Nat} {f : Pic} {μ : Mem} (hj : j < 8) (hw : w ≤ 8) (hh : h ≤ 8) (h44 : μ.1 0 44 = nI j) (hr : rowM μ j w h f) : ∃ r, f_X10_rowIsPart μ = some r ∧ ptM r w h f ∧ (∀ b, b ≠ 25 → b ≠ 0 → r.1 b = μ.1 b) ∧ (∀ i, i ≠ 32 → i ≠ 33 → r.1 0 i = μ.1 0 i) := by
  obtain ⟨r1, r2, r3⟩ := hr
  unfold f_X10_rowIsPart
  rw [h44, rI_nI hj (by decide), bi_some, r1, sI_sl (show (44 : Nat) ≠ 32 by decide), h44, rI_nI hj (by decide), bi_some, sI_pl (show (28 : Nat) ≠ 0 by decide), r2]
  obtain ⟨M, hM⟩ : ∃ M, M = sI (sI μ 0 32 (nI w)) 0 33 (nI h) := ⟨_, rfl⟩
  rw [← hM]
  have m1 : ∀ b, b ≠ 0 → M.1 b = μ.1 b := fun b hb => by rw [hM, sI_pl hb, sI_pl hb]
  have m2 : ∀ i, i ≠ 32 → i ≠ 33 → M.1 0 i = μ.1 0 i := fun i h1 h2 => by rw [hM, sI_sl h2, sI_sl h1]
  obtain ⟨q, e, q1, -, q3⟩ := rip_L (j := j) (K := fun μ6 => (some μ6)) hj 64 FU 0 M rfl (by decide) (by rw [m2 44 (by decide) (by decide)]; exact h44)
  rw [show nI 0 = (0 : Int32) from rfl] at e
  rw [e]
  refine ⟨q, rfl, ⟨by rw [q1 0 (by decide), hM, sI_sl (by decide), sI_same], by rw [q1 0 (by decide), hM, sI_same], fun c t hc ht => ?_⟩, fun b hb h0 => by rw [q1 b hb, m1 b h0], fun i h1 h2 => by rw [q1 0 (by decide), m2 i h1 h2]⟩
  rw [q3 (8 * t + c) (Nat.zero_le _) (by omega), m1 29 (by decide), ← Nat.add_assoc]
  exact r3 c t hc ht
