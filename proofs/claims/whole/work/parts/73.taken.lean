/-! place: the columns that are taken, and the first that are free -/
theorem tak_L {μ : Mem} {a s h : Nat} {K : Int64 → Mem → Option (Int64 × Mem)} (hs : s + h ≤ 720) : ∀ (m n j : Nat) (t0 : Int64), j + m = h → m < n → ∃ t, f_X4_takenColumns_L15 a (nI h) (nI s) K n t0 (nI (s + j)) μ = K t μ ∧ ∀ x, x < 64 → (bitL t x = true ↔ bitL t0 x = true ∨ ∃ j2, j ≤ j2 ∧ j2 < h ∧ (bitL (μ.2 (a + 3) (s + j2)) x = true ∨ bitL (μ.2 (a + 4) (s + j2)) x = true)) := by
  intro m
  induction m with
  | zero =>
    intro n j t0 hj hn
    obtain ⟨n', rfl⟩ : ∃ n', n = n' + 1 := ⟨n - 1, by omega⟩
    refine ⟨t0, by rw [f_X4_takenColumns_L15, nI_add, if_pos (nI_le (by omega) (by omega))], fun x hx => ⟨Or.inl, ?_⟩⟩
    rintro (h | ⟨j2, h1, h2, -⟩)
    · exact h
    · omega
  | succ m ih =>
    intro n j t0 hj hn
    obtain ⟨n', rfl⟩ : ∃ n', n = n' + 1 := ⟨n - 1, by omega⟩
    obtain ⟨t, e, ht⟩ := ih n' (j + 1) (t0 ||| (μ.2 (a + 3) (s + j) ||| μ.2 (a + 4) (s + j))) (by omega) (by omega)
    refine ⟨t, ?_, fun x hx => ?_⟩
    · rw [f_X4_takenColumns_L15, nI_add, if_neg (nI_ge (by omega) (by omega)), if_neg (nI_ge (by omega) (by omega)), rJ_nI (by omega) (by decide), bi_some, rJ_nI (by omega) (by decide), bi_some, nI_s]
      exact e
    · rw [ht x hx, bit_or, bit_or, Bool.or_eq_true, Bool.or_eq_true]
      constructor
      · rintro ((h | h) | ⟨j2, h1, h2, h3⟩)
        · exact Or.inl h
        · exact Or.inr ⟨j, by omega, by omega, h⟩
        · exact Or.inr ⟨j2, by omega, h2, h3⟩
      · rintro (h | ⟨j2, h1, h2, h3⟩)
        · exact Or.inl (Or.inl h)
        · by_cases e2 : j2 = j
          · rw [e2] at h3; exact Or.inl (Or.inr h3)
          · exact Or.inr ⟨j2, by omega, h2, h3⟩
theorem takC {μ : Mem} {a i y h : Nat} (hi : i < 12) (hy : y + h ≤ 60) : ∃ t, f_X4_takenColumns a (nI i) (nI y) (nI h) μ = some (t, μ) ∧ ∀ x, x < 64 → (bitL t x = true ↔ ∃ y2, y ≤ y2 ∧ y2 < y + h ∧ (bitL (μ.2 (a + 3) (60 * i + y2)) x = true ∨ bitL (μ.2 (a + 4) (60 * i + y2)) x = true)) := by
  have e1 : nI i * 60 + nI y = nI (60 * i + y) := by rw [show (60 : Int32) = nI 60 from rfl, pk_mul, nI_add, Nat.mul_comm]
  obtain ⟨t, e, ht⟩ := tak_L (μ := μ) (a := a) (s := 60 * i + y) (h := h) (K := fun w5 μ6 => some (w5, μ6)) (by omega) h FU 0 0 (by omega) (show h < 8192 by omega)
  refine ⟨t, ?_, fun x hx => ?_⟩
  · unfold f_X4_takenColumns
    rw [e1]; exact e
  · rw [ht x hx, bit_0]
    constructor
    · rintro (h1 | ⟨j2, h1, h2, h3⟩)
      · cases h1
      · exact ⟨y + j2, by omega, by omega, by rw [← Nat.add_assoc]; exact h3⟩
    · rintro ⟨y2, h1, h2, h3⟩
      exact Or.inr ⟨y2 - y, by omega, by omega, by rw [show 60 * i + y + (y2 - y) = 60 * i + y2 by omega]; exact h3⟩
theorem stack_eq {μ : Mem} {d o : Nat} {D : DoorD} (cd : Cd μ (56 + 4 * d) D) (ho : o < 10) : f_X0_stackHigh (56 + 4 * d) (nI o) μ = some (nI (cnt D o * dPh D), μ) := by
  unfold f_X0_stackHigh
  rw [rI_nI ho (by decide), bi_some, cd.2.2.2.2.2.2.2.1 o ho, cd.2.2.2.2.2.1, pk_mul]
theorem tk_L {μ : Mem} {d a F Y b : Nat} {D : DoorD} {K : Int64 → Mem → Option (Int64 × Mem)} (cd : Cd μ (56 + 4 * d) D) (e7 : μ.1 (56 + 4 * d) 7 = nI b) (hb : b < 10) (hF : F + b < 12) (hY : ∀ o, o < 10 → cnt D o ≠ 0 → Y + cnt D o * dPh D ≤ 60) (hY0 : Y ≤ 60) : ∀ (m n k : Nat) (t0 : Int64), k + m = b + 1 → m < n → ∃ t, f_X2_takenColumns_L9 (56 + 4 * d) a (nI F) (nI Y) K n t0 (nI k) μ = K t μ ∧ ∀ x, x < 64 → (bitL t x = true ↔ bitL t0 x = true ∨ ∃ o, k ≤ o ∧ o ≤ b ∧ ∃ y2, Y ≤ y2 ∧ y2 < Y + cnt D o * dPh D ∧ (bitL (μ.2 (a + 3) (60 * (F + o) + y2)) x = true ∨ bitL (μ.2 (a + 4) (60 * (F + o) + y2)) x = true)) := by
  intro m
  induction m with
  | zero =>
    intro n k t0 hj hn
    obtain ⟨n', rfl⟩ : ∃ n', n = n' + 1 := ⟨n - 1, by omega⟩
    have hlt : nI b < nI k := by rw [iz_nat, iz_nat, iz_lt (by omega) (by omega) (by omega) (by omega)]; omega
    refine ⟨t0, by rw [f_X2_takenColumns_L9, e7, if_pos hlt], fun x hx => ⟨Or.inl, ?_⟩⟩
    rintro (h | ⟨o, h1, h2, -⟩)
    · exact h
    · omega
  | succ m ih =>
    intro n k t0 hj hn
    obtain ⟨n', rfl⟩ : ∃ n', n = n' + 1 := ⟨n - 1, by omega⟩
    have hge : ¬ nI b < nI k := by rw [iz_nat, iz_nat, iz_lt (by omega) (by omega) (by omega) (by omega)]; omega
    have hY2 : Y + cnt D k * dPh D ≤ 60 := by
      by_cases h : cnt D k = 0
      · rw [h]; omega
      · exact hY k (by omega) h
    obtain ⟨t1, e1, ht1⟩ := takC (μ := μ) (a := a) (i := F + k) (y := Y) (h := cnt D k * dPh D) (by omega) hY2
    obtain ⟨t, e, ht⟩ := ih n' (k + 1) (t0 ||| t1) (by omega) (by omega)
    refine ⟨t, ?_, fun x hx => ?_⟩
    · rw [f_X2_takenColumns_L9, e7, if_neg hge, stack_eq cd (by omega), bd_some, nI_add, e1, bd_some, nI_s]
      exact e
    · rw [ht x hx, bit_or, Bool.or_eq_true, ht1 x hx]
      constructor
      · rintro ((h | h) | ⟨o, h1, h2, h3⟩)
        · exact Or.inl h
        · exact Or.inr ⟨k, by omega, by omega, h⟩
        · exact Or.inr ⟨o, by omega, h2, h3⟩
      · rintro (h | ⟨o, h1, h2, h3⟩)
        · exact Or.inl (Or.inl h)
        · by_cases e2 : o = k
          · rw [e2] at h3; exact Or.inl (Or.inr h3)
          · exact Or.inr ⟨o, by omega, h2, h3⟩
theorem tkC {μ : Mem} {d a F Y a0 b : Nat} {D : DoorD} (cd : Cd μ (56 + 4 * d) D) (e6 : μ.1 (56 + 4 * d) 6 = nI a0) (e7 : μ.1 (56 + 4 * d) 7 = nI b) (hab : a0 ≤ b) (hb : b < 10) (hF : F + b < 12) (hY : ∀ o, o < 10 → cnt D o ≠ 0 → Y + cnt D o * dPh D ≤ 60) (hY0 : Y ≤ 60) : ∃ t, f_X2_takenColumns (56 + 4 * d) a (nI F) (nI Y) μ = some (t, μ) ∧ ∀ x, x < 64 → (bitL t x = true ↔ ∃ o, a0 ≤ o ∧ o ≤ b ∧ ∃ y2, Y ≤ y2 ∧ y2 < Y + cnt D o * dPh D ∧ (bitL (μ.2 (a + 3) (60 * (F + o) + y2)) x = true ∨ bitL (μ.2 (a + 4) (60 * (F + o) + y2)) x = true)) := by
  obtain ⟨t, e, ht⟩ := tk_L (a := a) (K := fun w6 μ7 => some (w6, μ7)) cd e7 hb hF hY hY0 (b + 1 - a0) FU a0 0 (by omega) (show b + 1 - a0 < 8192 by omega)
  refine ⟨t, ?_, fun x hx => ?_⟩
  · unfold f_X2_takenColumns; rw [e6]; exact e
  · rw [ht x hx, bit_0]
    constructor
    · rintro (h | h)
      · cases h
      · exact h
    · exact Or.inr
theorem free_L {μ : Mem} {t : Int64} {w X : Nat} {K : Mem → Option (Int32 × Mem)} (hX : X + w ≤ 62) (hw : 1 ≤ w) : ∀ (m n k : Nat), k + m = X + 1 → m < n → (f_X2_firstFree_L3 t (nI w) (nI X) K n (nI k) μ = K μ ∧ ∀ x, k ≤ x → x ≤ X → ¬ t &&& mk64 x w = 0) ∨ ∃ x, f_X2_firstFree_L3 t (nI w) (nI X) K n (nI k) μ = some (nI x, μ) ∧ k ≤ x ∧ x ≤ X ∧ t &&& mk64 x w = 0 ∧ ∀ x2, k ≤ x2 → x2 < x → ¬ t &&& mk64 x2 w = 0 := by
  intro m
  induction m with
  | zero =>
    intro n k hk hn
    obtain ⟨n', rfl⟩ : ∃ n', n = n' + 1 := ⟨n - 1, by omega⟩
    have hlt : nI X < nI k := by rw [iz_nat, iz_nat, iz_lt (by omega) (by omega) (by omega) (by omega)]; omega
    left
    exact ⟨by rw [f_X2_firstFree_L3, if_pos hlt], fun x h1 h2 => by omega⟩
  | succ m ih =>
    intro n k hk hn
    obtain ⟨n', rfl⟩ : ∃ n', n = n' + 1 := ⟨n - 1, by omega⟩
    have hge : ¬ nI X < nI k := by rw [iz_nat, iz_nat, iz_lt (by omega) (by omega) (by omega) (by omega)]; omega
    rw [f_X2_firstFree_L3, if_neg hge, mask_eq (by omega) (by omega), bd_some]
    simp only [lg_cmp_eq]
    by_cases h : t &&& mk64 k w = 0
    · rw [if_pos h]
      right
      exact ⟨k, rfl, by omega, by omega, h, fun x2 h1 h2 => by omega⟩
    · rw [if_neg h, nI_s]
      rcases ih n' (k + 1) (by omega) (by omega) with ⟨e, h1⟩ | ⟨x, e, h1, h2, h3, h4⟩
      · left
        refine ⟨e, fun x h2 h3 => ?_⟩
        by_cases e2 : x = k
        · rw [e2]; exact h
        · exact h1 x (by omega) h3
      · right
        refine ⟨x, e, by omega, h2, h3, fun x2 h5 h6 => ?_⟩
        by_cases e2 : x2 = k
        · rw [e2]; exact h
        · exact h4 x2 (by omega) h6
theorem mask0 {t : Int64} {x w : Nat} : t &&& mk64 x w = 0 ↔ ∀ x2, x2 < 64 → x ≤ x2 → x2 < x + w → bitL t x2 = false := by
  rw [bit_zero]
  constructor
  · intro h x2 h1 h2 h3
    have := h x2 h1
    rw [bit_and, mask_bit h1, decide_eq_true ⟨h2, h3⟩, Bool.and_true] at this
    exact this
  · intro h j hj
    rw [bit_and, mask_bit hj]
    by_cases q : x ≤ j ∧ j < x + w
    · rw [h j hj q.1 q.2, Bool.false_and]
    · rw [decide_eq_false q, Bool.and_false]
