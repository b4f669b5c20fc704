/-! leaves, widths, flaws that overlap a box; the steps of hit and leaf -/
theorem mul_rng {a b A B : Int} (h1 : -A ≤ a) (h2 : a ≤ A) (h3 : -B ≤ b) (h4 : b ≤ B) (hA : 0 ≤ A) (hB : 0 ≤ B) : -(A * B) ≤ a * b ∧ a * b ≤ A * B := by
  have e1 : a * b ≤ A * B ∧ -(A * B) ≤ a * b := by
    have p1 : 0 ≤ (A - a) * (B - b) := Int.mul_nonneg (by omega) (by omega)
    have p2 : 0 ≤ (A + a) * (B + b) := Int.mul_nonneg (by omega) (by omega)
    have p3 : 0 ≤ (A - a) * (B + b) := Int.mul_nonneg (by omega) (by omega)
    have p4 : 0 ≤ (A + a) * (B - b) := Int.mul_nonneg (by omega) (by omega)
    rw [Int.sub_mul, Int.mul_sub, Int.mul_sub] at p1
    rw [Int.add_mul, Int.mul_add, Int.mul_add] at p2
    rw [Int.sub_mul, Int.mul_add, Int.mul_add] at p3
    rw [Int.add_mul, Int.mul_sub, Int.mul_sub] at p4
    generalize A * B = x at *
    generalize a * b = y at *
    generalize A * b = z at *
    generalize a * B = w at *
    omega
  exact ⟨e1.2, e1.1⟩
theorem toI64 (x : Int32) : x.toInt64.toInt = x.toInt := Int32.toInt_toInt64 x
theorem l64_lt {a b : Int64} : a < b ↔ a.toInt < b.toInt := Int64.lt_iff_toInt_lt
theorem l64_le {a b : Int64} : a ≤ b ↔ a.toInt ≤ b.toInt := Int64.le_iff_toInt_le
theorem i32_rng (x : Int32) : -2147483648 ≤ x.toInt ∧ x.toInt < 2147483648 := by
  have h1 := Int32.le_toInt x
  have h2 := Int32.toInt_lt x
  exact ⟨by simpa using h1, by simpa using h2⟩
theorem hasLeaf_eq {μ : Mem} {a N : Nat} {q : Int64} (h : μ.1 a 1 = nI N) (hN : N < 1000) : f_X4_hasLeaf a q μ = some (b01 (0 ≤ q.toInt ∧ q.toInt < N), μ) := by
  unfold f_X4_hasLeaf
  have e0 : (0 : Int64).toInt = 0 := rfl
  have eN : (nI N).toInt = N := nI_toInt (by omega)
  rw [h]
  simp only [lg_cmp_gt, lg_cmp_ge, l64_lt, l64_le, toI64, eN, e0]
  by_cases h1 : q.toInt < 0
  · rw [if_pos h1, b01_f (by omega)]
  · rw [if_neg h1]
    by_cases h2 : (N : Int) ≤ q.toInt
    · rw [if_pos h2, b01_f (by omega)]
    · rw [if_neg h2, b01_t (by omega)]
theorem leafIx {v : Int32} {N : Nat} (hN : N < 1000) : (0 ≤ v.toInt ∧ v.toInt < N) ↔ ∃ i, i < N ∧ v = nI i := by
  constructor
  · intro h
    obtain ⟨j, hj, e⟩ := nI_of (x := v) (by rw [lt_toInt]; have e0 : (0 : Int32).toInt = 0 := rfl; omega)
    subst e
    rw [nI_toInt hj] at h
    exact ⟨j, by omega, rfl⟩
  · rintro ⟨i, hi, rfl⟩
    rw [nI_toInt (by omega)]; omega
theorem isLeaf_in {μ : Mem} {L : Nat → Option LogD} {l i : Nat} {g : LogD} (hC : ML μ L) (hw : WFg g) (hl : l < 3) (hL : L l = some g) (hi : i < gN g) : f_X10_isLeaf (nI l) (nI i) μ = some (1, μ) := by
  have h := hC l hl
  rw [hL] at h
  have h0 : μ.1 1 l = nI (gN g) := h.1
  have h12 := hw.2.1
  unfold f_X10_isLeaf
  rw [isLog_some hC hw hl hL, bd_some, if_neg (by decide), if_neg (nI_pos (by omega)), rI_nI hl (by decide), bi_some, h0, if_neg (nI_ge hi (by omega))]
theorem isLeaf_out {μ : Mem} {L : Nat → Option LogD} {l : Nat} {v : Int32} {g : LogD} (hC : ML μ L) (hw : WFg g) (hl : l < 3) (hL : L l = some g) (hi : ¬ ∃ i, i < gN g ∧ v = nI i) : f_X10_isLeaf (nI l) v μ = some (0, μ) := by
  have h := hC l hl
  rw [hL] at h
  have h0 : μ.1 1 l = nI (gN g) := h.1
  have h12 := hw.2.1
  unfold f_X10_isLeaf
  rw [isLog_some hC hw hl hL, bd_some, if_neg (by decide)]
  rcases pk_ix v (n := gN g) (by omega) with h | h | h
  · rw [if_pos h]
  · by_cases h9 : v < 0
    · rw [if_pos h9]
    · rw [if_neg h9, rI_nI hl (by decide), bi_some, h0, if_pos h]
  · exact absurd h hi
theorem isLeaf_none {μ : Mem} {L : Nat → Option LogD} {v w : Int32} (hC : ML μ L) (hn : ∀ l, l < 3 → v = nI l → L l = none) : f_X10_isLeaf v w μ = some (0, μ) := by
  unfold f_X10_isLeaf
  rw [isLog_none hC hn, bd_some, if_pos rfl]
theorem wdt_z {g : LogD} {i : Nat} (hw : WFg g) (hi : i < 12) : -100 ≤ (gW g : Int) + i * gG g ∧ (gW g : Int) + i * gG g ≤ 62 ∧ ((wdt g i : Nat) : Int) = max 1 ((gW g : Int) + i * gG g) := by
  obtain ⟨w1, w2, w3, w4, w5, w6, w7, w8, -⟩ := hw
  have hm := mul_rng (a := (i : Int)) (b := gG g) (A := 11) (B := 2) (by omega) (by omega) (by omega) (by omega) (by omega) (by omega)
  refine ⟨by omega, by omega, ?_⟩
  unfold wdt
  rw [Int.toNat_of_nonneg (by omega)]
theorem wdt_rng {g : LogD} {i : Nat} (hw : WFg g) (hi : i < 12) : 1 ≤ wdt g i ∧ wdt g i ≤ 62 := by
  obtain ⟨h1, h2, h3⟩ := wdt_z hw hi
  omega
theorem iMax1 {z : Int} (h1 : -100 ≤ z) (h2 : z ≤ 62) : iMax 1 (iz z) = iz (max 1 z) := by
  unfold iMax
  by_cases h : 1 < z
  · rw [if_pos (show (1 : Int32) < iz z from (iz_lt (a := 1) (by omega) (by omega) (by omega) (by omega)).mpr h), Int.max_eq_right (by omega)]
  · rw [if_neg (show ¬ (1 : Int32) < iz z from fun q => h ((iz_lt (a := 1) (by omega) (by omega) (by omega) (by omega)).mp q)), Int.max_eq_left (by omega)]; rfl
theorem widthOf_eq {μ : Mem} {a i : Nat} {g : LogD} (hw : WFg g) (cg : Cg μ a g) (hi : i < 12) : f_X4_widthOf a (nI i) μ = some (nI (wdt g i), μ) := by
  obtain ⟨h1, h2, h3⟩ := wdt_z hw hi
  unfold f_X4_widthOf
  rw [cg.2.2.2.1, cg.2.2.2.2.1, iz_nat, iz_nat, iz_mul, iz_add, iMax1 h1 h2, iz_nat, h3]
theorem widthM_eq {μ : Mem} {l i : Nat} {g : LogD} (hw : WFg g) (mg : Mg μ l g) (hl : l < 3) (hi : i < 12) : f_X10_widthOf (nI l) (nI i) μ = some (nI (wdt g i), μ) := by
  obtain ⟨h1, h2, h3⟩ := wdt_z hw hi
  unfold f_X10_widthOf
  rw [rI_nI hl (by decide), bi_some, rI_nI hl (by decide), bi_some, mg.2.2.1, mg.2.2.2.1, iz_nat, iz_nat, iz_mul, iz_add]
  by_cases h : (1 : Int) ≤ (gW g : Int) + i * gG g
  · rw [if_pos (show (1 : Int32) ≤ iz (↑(gW g) + ↑i * gG g) from (iz_le (a := 1) (by omega) (by omega) (by omega) (by omega)).mpr h), iz_nat, h3, Int.max_eq_right h]
  · rw [if_neg (show ¬ (1 : Int32) ≤ iz (↑(gW g) + ↑i * gG g) from fun q => h ((iz_le (a := 1) (by omega) (by omega) (by omega) (by omega)).mp q)), iz_nat, h3, Int.max_eq_left (by omega)]; rfl
theorem holds_eq {μ : Mem} {a i : Nat} {g : LogD} {v2 v5 v6 : Int32} {v3 : Int64} (hw : WFg g) (cg : Cg μ a g) (hi : i < 12) (h5 : 1 ≤ v5.toInt) (h5' : v5.toInt ≤ 1000) (h6 : 1 ≤ v6.toInt) (h6' : v6.toInt ≤ 1000) : f_X4_holds a (nI i) v2 v3 v5 v6 μ = some (b01 ((0 ≤ v2.toInt ∧ v2.toInt + v5.toInt ≤ wdt g i) ∧ (0 ≤ v3.toInt ∧ v3.toInt + v6.toInt ≤ gLen g)), μ) := by
  obtain ⟨r1, r2⟩ := wdt_rng hw hi
  have hlen := hw.2.2.2.1
  have e0 : (0 : Int32).toInt = 0 := rfl
  have e0' : (0 : Int64).toInt = 0 := rfl
  have s1 : (nI (wdt g i) - v5).toInt = (wdt g i : Int) - v5.toInt := by
    rw [← iz_of v5, iz_nat, iz_sub, iz_toInt (by omega) (by omega), iz_of]
  have s2 : (nI (gLen g) - v6).toInt = (gLen g : Int) - v6.toInt := by
    rw [← iz_of v6, iz_nat, iz_sub, iz_toInt (by omega) (by omega), iz_of]
  unfold f_X4_holds
  rw [widthOf_eq hw cg hi, bd_some, cg.2.2.1]
  simp only [lg_cmp_gt, l64_lt, toI64, s2, e0']
  simp only [lt_toInt, s1, e0]
  by_cases h1 : v2.toInt < 0
  · rw [if_pos h1, b01_f (by omega)]
  · rw [if_neg h1]
    by_cases h2 : (wdt g i : Int) - v5.toInt < v2.toInt
    · rw [if_pos h2, b01_f (by omega)]
    · rw [if_neg h2]
      by_cases h3 : v3.toInt < 0
      · rw [if_pos h3, b01_f (by omega)]
      · rw [if_neg h3]
        by_cases h4 : (gLen g : Int) - v6.toInt < v3.toInt
        · rw [if_pos h4, b01_f (by omega)]
        · rw [if_neg h4, b01_t (by omega)]
theorem add64 {a b : Int64} {x y : Int} (ha : a.toInt = x) (hb : b.toInt = y) (h1 : -9223372036854775808 ≤ x + y) (h2 : x + y < 9223372036854775808) : (a + b).toInt = x + y := by
  rw [Int64.toInt_add, ha, hb]
  exact Int.bmod_eq_of_le (by omega) (by omega)
theorem within_eq {μ : Mem} {l i : Nat} {g : LogD} {v7 v8 : Int32} {v3 v5 : Int64} (hw : WFg g) (mg : Mg μ l g) (hl : l < 3) (hi : i < 12) (h3 : -10000000000 ≤ v3.toInt) (h3' : v3.toInt ≤ 10000000000) (h5 : -10000000000 ≤ v5.toInt) (h5' : v5.toInt ≤ 10000000000) : f_X10_isWithin (nI l) (nI i) v3 v5 v7 v8 μ = some (b01 ((0 ≤ v3.toInt ∧ v3.toInt + v7.toInt ≤ wdt g i) ∧ (0 ≤ v5.toInt ∧ v5.toInt + v8.toInt ≤ gLen g)), μ) := by
  obtain ⟨r1, r2⟩ := wdt_rng hw hi
  have hlen := hw.2.2.2.1
  have e0' : (0 : Int64).toInt = 0 := rfl
  have b7 := i32_rng v7
  have b8 := i32_rng v8
  unfold f_X10_isWithin
  have a1 : (v3 + v7.toInt64).toInt = v3.toInt + v7.toInt := add64 rfl (toI64 v7) (by omega) (by omega)
  have a2 : (v5 + v8.toInt64).toInt = v5.toInt + v8.toInt := add64 rfl (toI64 v8) (by omega) (by omega)
  have n1 : (nI (wdt g i)).toInt = wdt g i := nI_toInt (by omega)
  have n2 : (nI (gLen g)).toInt = gLen g := nI_toInt (by omega)
  rw [widthM_eq hw mg hl hi, bd_some, rI_nI hl (by decide), bi_some, mg.2.1]
  simp only [lg_cmp_lt, lg_cmp_gt, l64_lt, e0', a1, a2, toI64, n1, n2]
  by_cases q1 : v3.toInt < 0
  · rw [if_pos q1, b01_f (by omega)]
  · rw [if_neg q1]
    by_cases q2 : v5.toInt < 0
    · rw [if_pos q2, b01_f (by omega)]
    · rw [if_neg q2]
      by_cases q3 : (wdt g i : Int) < v3.toInt + v7.toInt
      · rw [if_pos q3, b01_f (by omega)]
      · rw [if_neg q3]
        by_cases q4 : (gLen g : Int) < v5.toInt + v8.toInt
        · rw [if_pos q4, b01_f (by omega)]
        · rw [if_neg q4, b01_t (by omega)]
