theorem wb_tb (n : Nat) : (lN n).toBitVec = BitVec.ofNat 64 n := rfl
theorem wb_inj {a b : Int64} (h : a.toBitVec = b.toBitVec) : a = b := Int64.toBitVec_inj.mp h
theorem wb_tn {n : Nat} (h : n < 2 ^ 64) : (lN n).toBitVec.toNat = n := by rw [wb_tb, BitVec.toNat_ofNat, Nat.mod_eq_of_lt h]
theorem wb_of (x : Int64) : ∃ n, n < 2 ^ 64 ∧ x = lN n := ⟨x.toBitVec.toNat, x.toBitVec.isLt, wb_inj (by rw [wb_tb]; simp)⟩
theorem wb_of32 (x : Int32) : ∃ n, n < 2 ^ 32 ∧ x = nI n := ⟨x.toBitVec.toNat, x.toBitVec.isLt, Int32.toBitVec_inj.mp (by show _ = BitVec.ofNat 32 _; simp)⟩
theorem wb_c : ∀ k, k < 64 → ((nI k).toInt64 &&& 63) = lN k := by decide +kernel
theorem wb_cu : ∀ k, k < 64 → ((nI k).toInt64.toUInt64 &&& Int64.toUInt64 63) = UInt64.ofNat k := by decide +kernel
theorem wb_sm : ∀ k, k < 64 → (BitVec.ofNat 64 k).smod 64 = BitVec.ofNat 64 k := by decide +kernel
theorem wb_pw {a b : Nat} (h : a ≤ b) : 2 ^ b = 2 ^ a * 2 ^ (b - a) := by rw [← Nat.pow_add]; congr 1; omega
theorem wb_lt2 {a b : Nat} (h : a < b) : 2 ^ a < 2 ^ b := Nat.pow_lt_pow_right (by decide) h
theorem wb_mod (n : Nat) : lN n = lN (n % 2 ^ 64) := wb_inj (by rw [wb_tb, wb_tb]; apply BitVec.eq_of_toNat_eq; rw [BitVec.toNat_ofNat, BitVec.toNat_ofNat, Nat.mod_mod])
theorem wb_shr {n k : Nat} (hn : n < 2 ^ 64) (hk : k < 64) : ((lN n).toUInt64 >>> ((nI k).toInt64.toUInt64 &&& Int64.toUInt64 63)).toInt64 = lN (n / 2 ^ k) := by
  rw [wb_cu k hk]
  apply wb_inj
  apply BitVec.eq_of_toNat_eq
  show ((lN n).toUInt64 >>> UInt64.ofNat k).toNat = (BitVec.ofNat 64 _).toNat
  have h1 : (UInt64.ofNat k).toNat = k := by
    show (BitVec.ofNat 64 k).toNat = k
    rw [BitVec.toNat_ofNat, Nat.mod_eq_of_lt (by omega)]
  have h2 : (lN n).toUInt64.toNat = n := wb_tn hn
  rw [UInt64.toNat_shiftRight, h1, h2, Nat.mod_eq_of_lt hk, Nat.shiftRight_eq_div_pow, BitVec.toNat_ofNat, Nat.mod_eq_of_lt (Nat.lt_of_le_of_lt (Nat.div_le_self _ _) hn)]
theorem wb_shl (n : Nat) {k : Nat} (hk : k < 64) : lN n <<< ((nI k).toInt64 &&& 63) = lN (n * 2 ^ k) := by
  rw [wb_c k hk]
  apply wb_inj
  rw [Int64.toBitVec_shiftLeft, wb_tb, wb_tb, wb_tb, wb_sm k hk]
  apply BitVec.eq_of_toNat_eq
  rw [BitVec.shiftLeft_eq', BitVec.toNat_shiftLeft, BitVec.toNat_ofNat, BitVec.toNat_ofNat, BitVec.toNat_ofNat, Nat.mod_eq_of_lt (show k < 2 ^ 64 by omega), Nat.shiftLeft_eq, Nat.mul_mod, Nat.mod_mod, ← Nat.mul_mod]
/-! masks of longs, bit by bit -/
theorem bit_lN {n j : Nat} (h : j < 64) : bitL (lN n) j = n.testBit j := by unfold bitL; rw [wb_tb, BitVec.getLsbD_ofNat]; simp [h]
theorem bit_or (a b : Int64) (j : Nat) : bitL (a ||| b) j = (bitL a j || bitL b j) := by unfold bitL; rw [Int64.toBitVec_or, BitVec.getLsbD_or]
theorem bit_and (a b : Int64) (j : Nat) : bitL (a &&& b) j = (bitL a j && bitL b j) := by unfold bitL; rw [Int64.toBitVec_and, BitVec.getLsbD_and]
theorem bit_xor (a b : Int64) (j : Nat) : bitL (a ^^^ b) j = (bitL a j ^^ bitL b j) := by unfold bitL; rw [Int64.toBitVec_xor, BitVec.getLsbD_xor]
theorem bit_0 (j : Nat) : bitL 0 j = false := BitVec.getLsbD_zero
theorem bit_zero {a : Int64} : a = 0 ↔ ∀ j, j < 64 → bitL a j = false := by
  constructor
  · intro h j _; rw [h]; exact bit_0 j
  · intro h
    apply wb_inj
    apply BitVec.eq_of_getLsbD_eq
    intro i hi
    have := h i hi
    unfold bitL at this
    rw [this]
    exact BitVec.getLsbD_zero.symm
def mk64 (x w : Nat) : Int64 := lN ((2 ^ w - 1) * 2 ^ x)
theorem mask_eq {x w : Nat} (hx : x < 64) (hw : w < 64) (μ : Mem) : f_X4_mask (nI x) (nI w) μ = some (mk64 x w, μ) := by
  unfold f_X4_mask mk64
  have h1 : (1 : Int64) <<< ((nI w).toInt64 &&& 63) = lN (2 ^ w) := by
    have := wb_shl 1 hw
    rw [Nat.one_mul] at this
    exact this
  have h2 : lN (2 ^ w) - 1 = lN (2 ^ w - 1) := lN_sub (b := 1) (Nat.one_le_two_pow)
  rw [h1, h2, wb_shl _ hx]
theorem mask_bit {x w j : Nat} (hj : j < 64) : bitL (mk64 x w) j = decide (x ≤ j ∧ j < x + w) := by
  unfold mk64
  rw [bit_lN hj, Nat.testBit_mul_two_pow, Nat.testBit_two_pow_sub_one]
  by_cases h1 : x ≤ j
  · by_cases h2 : j < x + w
    · simp [h1, h2]; omega
    · simp [h1, h2]; omega
  · simp [h1]
/-- rows of flaws: what a marking adds -/
def mkR (μ r : Mem) (a : Nat) (P : Nat → Nat → Nat → Bool) : Prop := r.1 = μ.1 ∧ (∀ p, p ≠ a + 3 → r.2 p = μ.2 p) ∧ ∀ i y x, i < 12 → y < 60 → x < 64 → bitL (r.2 (a + 3) (60 * i + y)) x = (bitL (μ.2 (a + 3) (60 * i + y)) x || P i y x)
theorem mkR.rf {μ : Mem} {a : Nat} {P : Nat → Nat → Nat → Bool} (h : ∀ i y x, P i y x = false) : mkR μ μ a P := ⟨rfl, fun _ _ => rfl, fun i y x _ _ _ => by rw [h, Bool.or_false]⟩
theorem mkR.tr {μ r s : Mem} {a : Nat} {P Q R : Nat → Nat → Nat → Bool} (h1 : mkR μ r a P) (h2 : mkR r s a Q) (hR : ∀ i y x, i < 12 → y < 60 → x < 64 → R i y x = (P i y x || Q i y x)) : mkR μ s a R :=
  ⟨h2.1.trans h1.1, fun p hp => (h2.2.1 p hp).trans (h1.2.1 p hp), fun i y x hi hy hx => by rw [h2.2.2 i y x hi hy hx, h1.2.2 i y x hi hy hx, hR i y x hi hy hx, Bool.or_assoc]⟩
def Pin (i : Nat) (y B : Int) (lf rt : Int) : Nat → Nat → Nat → Bool := fun i2 y2 x2 => decide (i2 = i ∧ y ≤ y2 ∧ (y2 : Int) < B ∧ lf ≤ x2 ∧ (x2 : Int) < rt)
theorem mark_in {a b i : Nat} {lf rt B : Int} {K : Mem → Option Mem} (hi : i < 12) (hl0 : 0 ≤ lf) (hr : -1000 ≤ rt) (hr2 : rt ≤ 62) (hl1 : lf ≤ 1000) (hB : -1000 ≤ B) (hB2 : B ≤ 60) : ∀ (m n y : Nat) (μ : Mem), y ≤ 1000 → (B - y).toNat ≤ m → m < n → ∃ r, f_X4_markFlaw_L85 a b (nI i) (iz lf) (iz rt) (iz B) K n (nI y) μ = K r ∧ mkR μ r a (Pin i y B lf rt) := by
  intro m
  induction m with
  | zero =>
    intro n y μ hy hm hn
    obtain ⟨n', rfl⟩ : ∃ n', n = n' + 1 := ⟨n - 1, by omega⟩
    refine ⟨μ, ?_, mkR.rf (fun i2 y2 x2 => decide_eq_false (by omega))⟩
    rw [f_X4_markFlaw_L85, iz_nat y, if_pos ((iz_le (by omega) (by omega) (by omega) (by omega)).mpr (by omega))]
  | succ m ih =>
    intro n y μ hy hm hn
    obtain ⟨n', rfl⟩ : ∃ n', n = n' + 1 := ⟨n - 1, by omega⟩
    by_cases hyB : B ≤ y
    · refine ⟨μ, ?_, mkR.rf (fun i2 y2 x2 => decide_eq_false (by omega))⟩
      rw [f_X4_markFlaw_L85, iz_nat y, if_pos ((iz_le (by omega) (by omega) (by omega) (by omega)).mpr (by omega))]
    · by_cases hlr : rt ≤ lf
      · refine ⟨μ, ?_, mkR.rf (fun i2 y2 x2 => decide_eq_false (by omega))⟩
        rw [f_X4_markFlaw_L85, iz_nat y, if_neg (fun q => hyB ((iz_le (by omega) (by omega) (by omega) (by omega)).mp q)), if_pos ((iz_le (by omega) (by omega) (by omega) (by omega)).mpr hlr)]
      · have ei : nI i * 60 + nI y = nI (60 * i + y) := by
          rw [show (60 : Int32) = nI 60 from rfl, pk_mul, nI_add, Nat.mul_comm]
        have el : iz lf = nI lf.toNat := by rw [iz_nat, Int.toNat_of_nonneg hl0]
        have er : iz rt - iz lf = nI (rt - lf).toNat := by rw [iz_sub, iz_nat, Int.toNat_of_nonneg (by omega)]
        have hidx : 60 * i + y < 720 := by omega
        obtain ⟨r, e1, k1⟩ := ih n' (y + 1) (sJ μ (a + 3) (60 * i + y) (μ.2 (a + 3) (60 * i + y) ||| mk64 lf.toNat (rt - lf).toNat)) (by omega) (by omega) (by omega)
        refine ⟨r, ?_, ?_⟩
        · rw [f_X4_markFlaw_L85, if_neg (fun q => hyB ((iz_le (by omega) (by omega) (by omega) (by omega)).mp (by rw [← iz_nat]; exact q))), if_neg (fun q => hlr ((iz_le (by omega) (by omega) (by omega) (by omega)).mp q)), ei, rJ_nI hidx (by decide), bi_some, er, el, mask_eq (by omega) (by omega), bd_some, wJ_nI hidx (by decide), bi_some, nI_s, ← el]
          exact e1
        · refine mkR.tr (r := sJ μ (a + 3) (60 * i + y) (μ.2 (a + 3) (60 * i + y) ||| mk64 lf.toNat (rt - lf).toNat)) (P := Pin i y (y + 1) lf rt) ⟨rfl, fun p hp => sJ_pl hp, fun i2 y2 x2 h1 h2 h3 => ?_⟩ k1 (fun i2 y2 x2 h1 h2 h3 => ?_)
          · rw [sJ_at]
            by_cases hq : 60 * i2 + y2 = 60 * i + y
            · have hi2 : i2 = i := by omega
              have hy2 : y2 = y := by omega
              subst hi2; subst hy2
              rw [if_pos ⟨rfl, rfl⟩, bit_or, mask_bit h3]
              congr 1
              unfold Pin
              apply decide_eq_decide.mpr
              omega
            · rw [if_neg (fun z => hq z.2)]
              have : Pin i y (y + 1) lf rt i2 y2 x2 = false := decide_eq_false (by intro z; apply hq; omega)
              rw [this, Bool.or_false]
          · unfold Pin
            rw [← Bool.decide_or]
            apply decide_eq_decide.mpr
            omega
