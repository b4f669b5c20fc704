/-! a box against rows of bits, and against flaws and strips -/
def mt (μ : Mem) (p : Nat) (m : Int64) : Nat → Nat → Bool
  | 0, _ => false
  | k + 1, q => (!decide (μ.2 p q &&& m = 0)) || mt μ p m k (q + 1)
theorem meets_L {μ : Mem} {p T : Nat} {m : Int64} {K : Mem → Option (Int32 × Mem)} (hT : T ≤ 720) : ∀ (k n q : Nat), q + k = T → k < n → f_X4_meets_L27 720 p m (nI T) K n (nI q) μ = if mt μ p m k q = true then some (1, μ) else K μ := by
  intro k
  induction k with
  | zero =>
    intro n q hq hn
    obtain ⟨n', rfl⟩ : ∃ n', n = n' + 1 := ⟨n - 1, by omega⟩
    rw [f_X4_meets_L27, if_pos (nI_le (by omega) (by omega))]; rfl
  | succ k ih =>
    intro n q hq hn
    obtain ⟨n', rfl⟩ : ∃ n', n = n' + 1 := ⟨n - 1, by omega⟩
    rw [f_X4_meets_L27, if_neg (nI_ge (show q < T by omega) (by omega)), rJ_nI (by omega) (by decide), bi_some]
    simp only [lg_cmp_eq]
    show _ = if ((!decide (μ.2 p q &&& m = 0)) || mt μ p m k (q + 1)) = true then some (1, μ) else K μ
    by_cases h : μ.2 p q &&& m = 0
    · rw [if_pos h, nI_s, ih n' (q + 1) (by omega) (by omega), decide_eq_true h, Bool.not_true, Bool.false_or]
    · rw [if_neg h, decide_eq_false h, Bool.not_false, Bool.true_or, if_pos rfl]
theorem mt_iff {μ : Mem} {p : Nat} {m : Int64} : ∀ (k q : Nat), mt μ p m k q = true ↔ ∃ j x, j < k ∧ x < 64 ∧ bitL (μ.2 p (q + j)) x = true ∧ bitL m x = true := by
  intro k
  induction k with
  | zero => intro q; exact ⟨(fun h => by cases h), (fun ⟨j, _, h, _⟩ => by omega)⟩
  | succ k ih =>
    intro q
    show ((!decide (μ.2 p q &&& m = 0)) || mt μ p m k (q + 1)) = true ↔ _
    rw [Bool.or_eq_true, ih (q + 1)]
    constructor
    · rintro (h | ⟨j, x, h1, h2, h3, h4⟩)
      · have hne : ¬ μ.2 p q &&& m = 0 := by simpa using h
        rw [bit_zero] at hne
        have : ∃ x, x < 64 ∧ bitL (μ.2 p q &&& m) x = true := by
          apply Classical.byContradiction
          intro hn
          apply hne
          intro j hj
          cases hb : bitL (μ.2 p q &&& m) j with
          | false => rfl
          | true => exact absurd ⟨j, hj, hb⟩ hn
        obtain ⟨x, hx, hb⟩ := this
        rw [bit_and, Bool.and_eq_true] at hb
        exact ⟨0, x, by omega, hx, hb.1, hb.2⟩
      · exact ⟨j + 1, x, by omega, h2, by rw [show q + (j + 1) = q + 1 + j by omega]; exact h3, h4⟩
    · rintro ⟨j, x, h1, h2, h3, h4⟩
      cases j with
      | zero =>
        left
        have hne : ¬ μ.2 p q &&& m = 0 := by
          intro hz
          have := (bit_zero.mp hz) x h2
          rw [bit_and, Bool.and_eq_false_iff] at this
          rw [Nat.add_zero] at h3
          rcases this with t | t
          · rw [h3] at t; cases t
          · rw [h4] at t; cases t
        simpa using hne
      | succ j =>
        right
        exact ⟨j, x, by omega, h2, by rw [show q + 1 + j = q + (j + 1) by omega]; exact h3, h4⟩
theorem meets_eq {μ : Mem} {p i y h : Nat} {m : Int64} (hi : i < 12) (hy : y + h ≤ 60) : f_X4_meets 720 p (nI i) (nI y) (nI h) m μ = some (b01 (mt μ p m h (60 * i + y) = true), μ) := by
  unfold f_X4_meets
  have e1 : nI i * 60 + nI y = nI (60 * i + y) := by rw [show (60 : Int32) = nI 60 from rfl, pk_mul, nI_add, Nat.mul_comm]
  have e2 : iMin (nI (60 * i + y + h)) (nI 720) = nI (60 * i + y + h) := by
    rw [iz_nat, iz_nat, iMin_iz (by omega) (by omega) (by omega) (by omega), Int.min_eq_left (by omega)]
  have e3 : iMax 0 (nI (60 * i + y)) = nI (60 * i + y) := by
    rw [iz0, iz_nat, iMax_iz (by omega) (by omega) (by omega) (by omega), Int.max_eq_right (by omega)]
  rw [e1, nI_add, e2, e3, meets_L (by omega) h FU (60 * i + y) rfl (show h < 8192 by omega)]
  by_cases hb : mt μ p m h (60 * i + y) = true
  · rw [if_pos hb, b01_t hb]
  · rw [if_neg hb, b01_f hb]
/-- is a bit of a box set in rows p? -/
def boxB (μ : Mem) (p i x y w h : Nat) : Bool := mt μ p (mk64 x w) h (60 * i + y)
theorem boxB_iff {μ : Mem} {p i x y w h : Nat} (hx : x + w ≤ 64) : boxB μ p i x y w h = true ↔ ∃ y2 x2, y ≤ y2 ∧ y2 < y + h ∧ x ≤ x2 ∧ x2 < x + w ∧ bitL (μ.2 p (60 * i + y2)) x2 = true := by
  unfold boxB
  rw [mt_iff]
  constructor
  · rintro ⟨j, x2, h1, h2, h3, h4⟩
    rw [mask_bit h2] at h4
    have h5 := of_decide_eq_true h4
    exact ⟨y + j, x2, by omega, by omega, h5.1, h5.2, by rw [← Nat.add_assoc]; exact h3⟩
  · rintro ⟨y2, x2, h1, h2, h3, h4, h5⟩
    exact ⟨y2 - y, x2, by omega, by omega, by rw [show 60 * i + y + (y2 - y) = 60 * i + y2 by omega]; exact h5, by rw [mask_bit (by omega)]; exact decide_eq_true ⟨h3, h4⟩⟩
theorem flawedC {μ : Mem} {a i x y w h : Nat} (hi : i < 12) (hy : y + h ≤ 60) (hx : x + w ≤ 62) (hw : 1 ≤ w) : f_X4_isFlawed a (nI i) (nI x) (nI y) (nI w) (nI h) μ = some (b01 (boxB μ (a + 3) i x y w h = true), μ) := by
  unfold f_X4_isFlawed boxB
  rw [mask_eq (by omega) (by omega), bd_some, meets_eq hi hy, bd_some, bz_b01]
theorem cutC {μ : Mem} {a i x y w h : Nat} (hi : i < 12) (hy : y + h ≤ 60) (hx : x + w ≤ 62) (hw : 1 ≤ w) : f_X4_isCut a (nI i) (nI x) (nI y) (nI w) (nI h) μ = some (b01 (boxB μ (a + 4) i x y w h = true), μ) := by
  unfold f_X4_isCut boxB
  rw [mask_eq (by omega) (by omega), bd_some, meets_eq hi hy, bd_some, bz_b01]
/-- a flaw overlaps a box iff a point of the box is the flaw's -/
theorem ov_cov {f : FlawD} {N i x y w h : Nat} (hf : WFf N f) (hN : N ≤ 12) (hi : i < 12) (hx : x ≤ 1000) (hy : y ≤ 1000) (hw : 1 ≤ w) (hw2 : w ≤ 1000) (hh : 1 ≤ h) (hh2 : h ≤ 1000) : ovB f (nI i) (nI x) (nI y) (nI w) (nI h) = true ↔ ∃ y2 x2 : Nat, y ≤ y2 ∧ y2 < y + h ∧ x ≤ x2 ∧ x2 < x + w ∧ covF f i x2 y2 := by
  have b1 := hf.1
  have b2 := hf.2.1
  have b5 := hf.2.2.2.2.1
  have b6 := hf.2.2.2.2.2.1
  have b7 := hf.2.2.2.2.2.2.1
  have b8 := hf.2.2.2.2.2.2.2.1
  rw [ovB_iff]
  unfold ov
  have eL : nI (fX f) + (nI i - nI (fF f)) * iz (fDx f) = iz (fl_l f i) := by
    rw [iz_nat, iz_nat, iz_nat, iz_sub, iz_mul, iz_add]; rfl
  have eT : nI (fY f) + (nI i - nI (fF f)) * iz (fDy f) = iz (fl_t f i) := by
    rw [iz_nat, iz_nat, iz_nat, iz_sub, iz_mul, iz_add]; rfl
  rw [eL, eT, nI_add, nI_add]
  show _ ↔ ∃ y2 x2 : Nat, y ≤ y2 ∧ y2 < y + h ∧ x ≤ x2 ∧ x2 < x + w ∧ (fF f ≤ i ∧ i ≤ fL f ∧ fl_l f i ≤ x2 ∧ (x2 : Int) < fl_l f i + fW f ∧ fl_t f i ≤ y2 ∧ (y2 : Int) < fl_t f i + fH f)
  by_cases hfi : fF f ≤ i ∧ i ≤ fL f
  · obtain ⟨r1, r2, r3, r4⟩ := fl_rng hf hN hfi.1 hfi.2
    have q1 : nI (fF f) ≤ nI i := nI_le hfi.1 (by omega)
    have q2 : nI i ≤ nI (fL f) := nI_le hfi.2 (by omega)
    have q3 : iz (fl_l f i) < nI (x + w) ↔ fl_l f i < ((x + w : Nat) : Int) := by rw [iz_nat]; exact iz_lt (by omega) (by omega) (by omega) (by omega)
    have q4 : nI x < iz (fl_l f i) + nI (fW f) ↔ (x : Int) < fl_l f i + fW f := by rw [iz_nat, iz_nat, iz_add]; exact iz_lt (by omega) (by omega) (by omega) (by omega)
    have q5 : iz (fl_t f i) < nI (y + h) ↔ fl_t f i < ((y + h : Nat) : Int) := by rw [iz_nat]; exact iz_lt (by omega) (by omega) (by omega) (by omega)
    have q6 : nI y < iz (fl_t f i) + nI (fH f) ↔ (y : Int) < fl_t f i + fH f := by rw [iz_nat, iz_nat, iz_add]; exact iz_lt (by omega) (by omega) (by omega) (by omega)
    rw [q3, q4, q5, q6]
    constructor
    · rintro ⟨-, -, h3, h4, h5, h6⟩
      exact ⟨(max (y : Int) (fl_t f i)).toNat, (max (x : Int) (fl_l f i)).toNat, by omega, by omega, by omega, by omega, hfi.1, hfi.2, by omega, by omega, by omega, by omega⟩
    · rintro ⟨y2, x2, h1, h2, h3, h4, -, -, h5, h6, h7, h8⟩
      exact ⟨q1, q2, by omega, by omega, by omega, by omega⟩
  · constructor
    · rintro ⟨h1, h2, -⟩
      exfalso
      apply hfi
      rw [nI_leI (by omega) (by omega)] at h1 h2
      exact ⟨h1, h2⟩
    · rintro ⟨y2, x2, -, -, -, -, h1, h2, -⟩
      exact absurd ⟨h1, h2⟩ hfi
