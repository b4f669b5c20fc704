/-! marking a flaw in all its leaves -/
theorem iMax_iz {a b : Int} (h1 : -2147483648 ≤ a) (h2 : a < 2147483648) (h3 : -2147483648 ≤ b) (h4 : b < 2147483648) : iMax (iz a) (iz b) = iz (max a b) := by
  unfold iMax
  by_cases h : a < b
  · rw [if_pos ((iz_lt h1 h2 h3 h4).mpr h), Int.max_eq_right (by omega)]
  · rw [if_neg (fun q => h ((iz_lt h1 h2 h3 h4).mp q)), Int.max_eq_left (by omega)]
theorem iMin_iz {a b : Int} (h1 : -2147483648 ≤ a) (h2 : a < 2147483648) (h3 : -2147483648 ≤ b) (h4 : b < 2147483648) : iMin (iz a) (iz b) = iz (min a b) := by
  unfold iMin
  by_cases h : b < a
  · rw [if_pos ((iz_lt h3 h4 h1 h2).mpr h), Int.min_eq_right (by omega)]
  · rw [if_neg (fun q => h ((iz_lt h3 h4 h1 h2).mp q)), Int.min_eq_left (by omega)]
theorem iz0 : (0 : Int32) = iz 0 := by decide
theorem widthOf_f {μ : Mem} {a i : Nat} {g : LogD} (hw : WFg g) (h6 : μ.1 a 6 = nI (gW g)) (h7 : μ.1 a 7 = iz (gG g)) (hi : i < 12) : f_X4_widthOf a (nI i) μ = some (nI (wdt g i), μ) := by
  obtain ⟨h1, h2, h3⟩ := wdt_z hw hi
  unfold f_X4_widthOf
  rw [h6, h7, iz_nat, iz_nat, iz_mul, iz_add, iMax1 h1 h2, iz_nat, h3]
def fl_l (f : FlawD) (i : Nat) : Int := fX f + ((i : Int) - fF f) * fDx f
def fl_t (f : FlawD) (i : Nat) : Int := fY f + ((i : Int) - fF f) * fDy f
theorem fl_rng {f : FlawD} {N i : Nat} (hf : WFf N f) (hN : N ≤ 12) (h1 : fF f ≤ i) (h2 : i ≤ fL f) : -220 ≤ fl_l f i ∧ fl_l f i ≤ 320 ∧ -220 ≤ fl_t f i ∧ fl_t f i ≤ 320 := by
  obtain ⟨f1, f2, f3, f4, f5, f6, f7, f8, f9, f10, f11, f12⟩ := hf
  have m1 := mul_rng (a := (i : Int) - fF f) (b := fDx f) (A := 11) (B := 20) (by omega) (by omega) (by omega) (by omega) (by omega) (by omega)
  have m2 := mul_rng (a := (i : Int) - fF f) (b := fDy f) (A := 11) (B := 20) (by omega) (by omega) (by omega) (by omega) (by omega) (by omega)
  unfold fl_l fl_t
  omega
def PO (f : FlawD) (g : LogD) (i0 : Nat) : Nat → Nat → Nat → Bool := fun i y x => decide (i0 ≤ i ∧ i ≤ fL f ∧ (fl_l f i ≤ x ∧ (x : Int) < fl_l f i + fW f ∧ x < wdt g i) ∧ (fl_t f i ≤ y ∧ (y : Int) < fl_t f i + fH f ∧ y < gLen g))
set_option maxRecDepth 10000 in
theorem mark_out {a b : Nat} {f : FlawD} {g : LogD} {K : Mem → Option Mem} (hw : WFg g) (hf : WFf (gN g) f) : ∀ (m n i : Nat) (μ : Mem), Cf μ b f → μ.1 a 1 = nI (gN g) → μ.1 a 2 = nI (gLen g) → μ.1 a 6 = nI (gW g) → μ.1 a 7 = iz (gG g) → fF f ≤ i → i + m = fL f + 1 → m < n → ∃ r, f_X4_markFlaw_L5 a b K n (nI i) μ = K r ∧ mkR μ r a (PO f g i) := by
  have hN := hw.2.1
  have hLen := hw.2.2.2.1
  have hfL : fL f < gN g := hf.2.1
  intro m
  induction m with
  | zero =>
    intro n i μ cf q1 q2 q6 q7 hi hm hn
    obtain ⟨n', rfl⟩ : ∃ n', n = n' + 1 := ⟨n - 1, by omega⟩
    refine ⟨μ, ?_, mkR.rf (fun i2 y2 x2 => decide_eq_false (by omega))⟩
    rw [f_X4_markFlaw_L5, cf.2.1, if_pos (nI_lt (by omega) (by omega))]
  | succ m ih =>
    intro n i μ cf q1 q2 q6 q7 hi hm hn
    obtain ⟨n', rfl⟩ : ∃ n', n = n' + 1 := ⟨n - 1, by omega⟩
    obtain ⟨r1, r2, r3, r4⟩ := fl_rng hf hN hi (by omega)
    obtain ⟨w1, w2⟩ := wdt_rng hw (show i < 12 by omega)
    have hh := hf.2.2.2.2.2
    have eL : nI (fX f) + (nI i - nI (fF f)) * iz (fDx f) = iz (fl_l f i) := by
      rw [iz_nat, iz_nat, iz_nat, iz_sub, iz_mul, iz_add]; rfl
    have eT : nI (fY f) + (nI i - nI (fF f)) * iz (fDy f) = iz (fl_t f i) := by
      rw [iz_nat, iz_nat, iz_nat, iz_sub, iz_mul, iz_add]; rfl
    obtain ⟨c0, c1, c2, c3, c4, c5, c6, c7⟩ := cf
    have a1 : iMax 0 (iz (fl_l f i)) = iz (max 0 (fl_l f i)) := by rw [iz0]; exact iMax_iz (by omega) (by omega) (by omega) (by omega)
    have a2 : iMin (nI (wdt g i)) (iz (fl_l f i) + nI (fW f)) = iz (min (wdt g i) (fl_l f i + fW f)) := by
      rw [iz_nat, iz_nat, iz_add]; exact iMin_iz (by omega) (by omega) (by omega) (by omega)
    have a3 : iMax 0 (iz (fl_t f i)) = iz (max 0 (fl_t f i)) := by rw [iz0]; exact iMax_iz (by omega) (by omega) (by omega) (by omega)
    have a4 : iMin (nI (gLen g)) (iz (fl_t f i) + nI (fH f)) = iz (min (gLen g) (fl_t f i + fH f)) := by
      rw [iz_nat, iz_nat, iz_add]; exact iMin_iz (by omega) (by omega) (by omega) (by omega)
    have a5 : iz (max 0 (fl_t f i)) = nI (max 0 (fl_t f i)).toNat := by rw [iz_nat, Int.toNat_of_nonneg (by omega)]
    obtain ⟨r, e1, k1⟩ := mark_in (a := a) (b := b) (i := i) (lf := max 0 (fl_l f i)) (rt := min (wdt g i) (fl_l f i + fW f)) (B := min (gLen g) (fl_t f i + fH f)) (K := fun μ19 => f_X4_markFlaw_L5 a b K n' (nI i + 1) μ19) (by omega) (by omega) (by omega) (by omega) (by omega) (by omega) (by omega) 400 FU (max 0 (fl_t f i)).toNat μ (by omega) (by omega) (show 400 < 8192 by omega)
    have cf2 : Cf r b f := Cf_of (by rw [k1.1]) ⟨c0, c1, c2, c3, c4, c5, c6, c7⟩
    obtain ⟨s, e2, k2⟩ := ih n' (i + 1) r cf2 (by rw [k1.1]; exact q1) (by rw [k1.1]; exact q2) (by rw [k1.1]; exact q6) (by rw [k1.1]; exact q7) (by omega) (by omega) (by omega)
    refine ⟨s, ?_, mkR.tr k1 k2 (fun i2 y2 x2 h1 h2 h3 => ?_)⟩
    · rw [f_X4_markFlaw_L5, c1, if_neg (nI_nlt (show i ≤ fL f by omega) (by omega)), q1, if_neg (nI_ge (show i < gN g by omega) (by omega))]
      unfold f_X3_leftIn f_X3_topIn
      rw [bd_some, widthOf_f hw q6 q7 (show i < 12 by omega), bd_some, bd_some, bd_some, bd_some, c2, c0, c6, c3, c7, c4, c5, q2, eL, eT, a1, a2, a3, a4, a5]
      refine e1.trans ?_
      rw [nI_s]
      exact e2
    · unfold PO Pin
      rw [← Bool.decide_or]
      apply decide_eq_decide.mpr
      by_cases hii : i2 = i
      · subst hii; omega
      · omega
theorem markFlaw_eq {a b : Nat} {f : FlawD} {g : LogD} {μ : Mem} (hw : WFg g) (hf : WFf (gN g) f) (cf : Cf μ b f) (q1 : μ.1 a 1 = nI (gN g)) (q2 : μ.1 a 2 = nI (gLen g)) (q6 : μ.1 a 6 = nI (gW g)) (q7 : μ.1 a 7 = iz (gG g)) : ∃ r, f_X4_markFlaw a b μ = some r ∧ mkR μ r a (PO f g (fF f)) := by
  have hN := hw.2.1
  have hfL : fL f < gN g := hf.2.1
  have hff := hf.1
  unfold f_X4_markFlaw
  rw [cf.1]
  exact mark_out hw hf (fL f + 1 - fF f) FU (fF f) μ cf q1 q2 q6 q7 (by omega) (by omega) (show _ < 8192 by omega)
theorem PO_cov {f : FlawD} {g : LogD} {i y x : Nat} (hx : x < wdt g i) (hy : y < gLen g) : PO f g (fF f) i y x = true ↔ covF f i x y := by
  unfold PO covF
  rw [decide_eq_true_eq]
  show _ ↔ fF f ≤ i ∧ i ≤ fL f ∧ fl_l f i ≤ x ∧ (x : Int) < fl_l f i + fW f ∧ fl_t f i ≤ y ∧ (y : Int) < fl_t f i + fH f
  constructor
  · intro h; exact ⟨h.1, h.2.1, h.2.2.1.1, h.2.2.1.2.1, h.2.2.2.1, h.2.2.2.2.1⟩
  · intro h; exact ⟨h.1, h.2.1, ⟨h.2.2.1, h.2.2.2.1, hx⟩, h.2.2.2.2.1, h.2.2.2.2.2, hy⟩
