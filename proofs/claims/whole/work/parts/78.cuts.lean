/-! cuts that are marked, or taken back (class) -/
def bxB (i y B x w : Nat) : Nat → Nat → Nat → Bool := fun i2 y2 x2 => decide (i2 = i ∧ y ≤ y2 ∧ y2 < B ∧ x ≤ x2 ∧ x2 < x + w)
/-- rows of cuts: what a change turns over -/
def xoR (μ r : Mem) (a : Nat) (P : Nat → Nat → Nat → Bool) : Prop := (∀ p, p ≠ a + 4 → r.2 p = μ.2 p) ∧ ∀ i y x, i < 12 → y < 60 → x < 64 → bitL (r.2 (a + 4) (60 * i + y)) x = (bitL (μ.2 (a + 4) (60 * i + y)) x ^^ P i y x)
theorem xoR.rf {μ r : Mem} {a : Nat} {P : Nat → Nat → Nat → Bool} (e : r.2 = μ.2) (h : ∀ i y x, i < 12 → y < 60 → x < 64 → P i y x = false) : xoR μ r a P := ⟨fun _ _ => by rw [e], fun i y x h1 h2 h3 => by rw [h i y x h1 h2 h3, Bool.xor_false, e]⟩
theorem xoR.tr {μ r s : Mem} {a : Nat} {P Q R : Nat → Nat → Nat → Bool} (h1 : xoR μ r a P) (h2 : xoR r s a Q) (hR : ∀ i y x, i < 12 → y < 60 → x < 64 → R i y x = (P i y x ^^ Q i y x)) : xoR μ s a R :=
  ⟨fun p hp => (h2.1 p hp).trans (h1.1 p hp), fun i y x hi hy hx => by rw [h2.2 i y x hi hy hx, h1.2 i y x hi hy hx, hR i y x hi hy hx, Bool.xor_assoc]⟩
theorem ch_in {a b1 i B X w : Nat} {v2 v3 : Int32} {K : Mem → Option Mem} (hi : i < 12) (hB : B ≤ 60) (hX : X + w ≤ 62) : ∀ (m n y : Nat) (μ : Mem), μ.1 b1 11 = nI X → μ.1 b1 3 = nI w → B - y ≤ m → y ≤ 60 → m < n → ∃ r, f_X4_changeCuts_L85 a b1 v2 v3 (nI i) (nI B) K n (nI y) μ = K r ∧ r.1 = μ.1 ∧ xoR μ r a (bxB i y B X w) := by
  intro m
  induction m with
  | zero =>
    intro n y μ e11 e3 hm hy hn
    obtain ⟨n', rfl⟩ : ∃ n', n = n' + 1 := ⟨n - 1, by omega⟩
    exact ⟨μ, by rw [f_X4_changeCuts_L85, if_pos (nI_le (by omega) (by omega))], rfl, xoR.rf rfl (fun i2 y2 x2 _ _ _ => decide_eq_false (by omega))⟩
  | succ m ih =>
    intro n y μ e11 e3 hm hy hn
    obtain ⟨n', rfl⟩ : ∃ n', n = n' + 1 := ⟨n - 1, by omega⟩
    by_cases hyB : B ≤ y
    · exact ⟨μ, by rw [f_X4_changeCuts_L85, if_pos (nI_le (by omega) (by omega))], rfl, xoR.rf rfl (fun i2 y2 x2 _ _ _ => decide_eq_false (by omega))⟩
    · have ei : nI i * 60 + nI y = nI (60 * i + y) := by
        rw [show (60 : Int32) = nI 60 from rfl, pk_mul, nI_add, Nat.mul_comm]
      have hidx : 60 * i + y < 720 := by omega
      obtain ⟨r, e1, k1, k2⟩ := ih n' (y + 1) (sJ μ (a + 4) (60 * i + y) (μ.2 (a + 4) (60 * i + y) ^^^ mk64 X w)) e11 e3 (by omega) (by omega) (by omega)
      refine ⟨r, ?_, k1, ?_⟩
      · rw [f_X4_changeCuts_L85, if_neg (nI_ge (by omega) (by omega)), ei, rJ_nI hidx (by decide), bi_some, e11, e3, mask_eq (by omega) (by omega), bd_some, wJ_nI hidx (by decide), bi_some, nI_s]
        exact e1
      · refine xoR.tr (r := sJ μ (a + 4) (60 * i + y) (μ.2 (a + 4) (60 * i + y) ^^^ mk64 X w)) (P := bxB i y (y + 1) X w) ⟨fun p hp => sJ_pl hp, fun i2 y2 x2 h1 h2 h3 => ?_⟩ k2 (fun i2 y2 x2 h1 h2 h3 => ?_)
        · rw [sJ_at]
          by_cases hq : 60 * i2 + y2 = 60 * i + y
          · have hi2 : i2 = i := by omega
            have hy2 : y2 = y := by omega
            subst hi2; subst hy2
            rw [if_pos ⟨rfl, rfl⟩, bit_xor, mask_bit h3]
            congr 1
            unfold bxB
            apply decide_eq_decide.mpr
            omega
          · rw [if_neg (fun z => hq z.2)]
            have : bxB i y (y + 1) X w i2 y2 x2 = false := decide_eq_false (by intro z; apply hq; omega)
            rw [this, Bool.xor_false]
        · unfold bxB
          by_cases c1 : i2 = i ∧ y ≤ y2 ∧ y2 < y + 1 ∧ X ≤ x2 ∧ x2 < X + w
          · rw [decide_eq_true c1, decide_eq_true (by omega), decide_eq_false (by omega)]; rfl
          · rw [decide_eq_false c1, Bool.false_xor]
            apply decide_eq_decide.mpr
            omega
/-- how many pieces of a door made from leaf F on lie on leaf i, from offset k on -/
def cv (D : DoorD) (F k i : Nat) : Nat := if F + k ≤ i ∧ i < F + 10 then cnt D (i - F) else 0
def dB (D : DoorD) (F Y X k : Nat) : Nat → Nat → Nat → Bool := fun i y x => decide (F + k ≤ i ∧ i < F + 10 ∧ Y ≤ y ∧ y < Y + cnt D (i - F) * dPh D ∧ X ≤ x ∧ x < X + dPw D)
/-- what a change of cuts reads -/
def chd (μ : Mem) (a b1 : Nat) (g : LogD) (D : DoorD) (F Y X : Nat) : Prop := μ.1 a 1 = nI (gN g) ∧ μ.1 a 2 = nI (gLen g) ∧ (∀ o, o < 10 → μ.1 (b1 + 3) o = nI (cnt D o)) ∧ μ.1 b1 3 = nI (dPw D) ∧ μ.1 b1 4 = nI (dPh D) ∧ μ.1 b1 9 = nI F ∧ μ.1 b1 10 = nI Y ∧ μ.1 b1 11 = nI X
theorem chd_of {μ r : Mem} {a b1 : Nat} {g : LogD} {D : DoorD} {F Y X : Nat} (h : chd μ a b1 g D F Y X) (h1 : r.1 a = μ.1 a) (h2 : r.1 (b1 + 3) = μ.1 (b1 + 3)) (h3 : r.1 b1 = μ.1 b1) : chd r a b1 g D F Y X := by
  unfold chd at *; rw [h1, h2, h3]; exact h
theorem zadd {A B C v : Int32} (h : A = B + v * C) (D : Int32) : A + v * D = B + v * (C + D) := by
  rw [h, Int32.mul_add, Int32.add_assoc]
theorem ch_out {a b1 F Y X : Nat} {g : LogD} {D : DoorD} {v2 : Int32} (hg : WFg g) (wd : WFd D) (ha : a + 1 < b1) (hin : ∀ o, o < 10 → cnt D o ≠ 0 → F + o < gN g ∧ X + dPw D ≤ wdt g (F + o) ∧ Y + cnt D o * dPh D ≤ gLen g) (hF : F ≤ 12) : ∀ (m n k : Nat) (μ : Mem), k + m = 10 → m < n → chd μ a b1 g D F Y X → ∃ r, f_X4_changeCuts_L2 a b1 v2 (fun μ18 => some μ18) n (nI k) μ = some r ∧ (∀ p, p ≠ a + 1 → r.1 p = μ.1 p) ∧ (∀ i, i < 12 → r.1 (a + 1) i = μ.1 (a + 1) i + v2 * nI (cv D F k i)) ∧ xoR μ r a (dB D F Y X k) := by
  have hN := hg.2.1
  have hlen := hg.2.2.2.1
  have p1 := wd.2.2.2.2.2.1
  have p3 := wd.2.2.2.2.2.2.2.1
  intro m
  induction m with
  | zero =>
    intro n k μ hk hn hd
    obtain ⟨n', rfl⟩ : ∃ n', n = n' + 1 := ⟨n - 1, by omega⟩
    have : k = 10 := by omega
    subst this
    refine ⟨μ, by rw [f_X4_changeCuts_L2, if_pos (by decide)], fun _ _ => rfl, fun i hi => ?_, xoR.rf rfl (fun i y x _ _ _ => decide_eq_false (by omega))⟩
    have : cv D F 10 i = 0 := if_neg (by omega)
    rw [this, show nI 0 = (0 : Int32) from rfl, Int32.mul_zero, Int32.add_zero]
  | succ m ih =>
    intro n k μ hk hn hd
    obtain ⟨n', rfl⟩ : ∃ n', n = n' + 1 := ⟨n - 1, by omega⟩
    have hk10 : ¬ (10 : Int32) ≤ nI k := nI_ge (b := 10) (by omega) (by omega)
    have hc6 := cnt_le wd k
    obtain ⟨d1, d2, d3, d4, d5, d6, d7, d8⟩ := id hd
    rw [f_X4_changeCuts_L2, if_neg hk10, rI_nI (by omega) (by decide), bi_some, d3 k (by omega)]
    by_cases h0 : cnt D k = 0
    · rw [h0, if_pos (show nI 0 = 0 from rfl), nI_s]
      obtain ⟨r, e, r1, r2, r3⟩ := ih n' (k + 1) μ (by omega) (by omega) hd
      refine ⟨r, e, r1, fun i hi => ?_, r3.1, fun i y x hi hy hx => ?_⟩
      · rw [r2 i hi]
        congr 3
        unfold cv
        by_cases c : i = F + k
        · rw [if_neg (by omega), if_pos (by omega), c, Nat.add_sub_cancel_left, h0]
        · by_cases c2 : F + (k + 1) ≤ i ∧ i < F + 10
          · rw [if_pos c2, if_pos (by omega)]
          · rw [if_neg c2, if_neg (by omega)]
      · rw [r3.2 i y x hi hy hx]
        congr 1
        unfold dB
        apply decide_eq_decide.mpr
        by_cases c : i = F + k
        · rw [c, Nat.add_sub_cancel_left, h0]; omega
        · constructor
          · rintro ⟨q1, q2⟩; exact ⟨by omega, q2⟩
          · rintro ⟨q1, q2⟩; exact ⟨by omega, q2⟩
    · have hne : ¬ nI (cnt D k) = 0 := by
        rw [iz0, iz_nat]; exact fun z => h0 (by have := (iz_eq (by omega) (by omega) (by omega) (by omega)).mp z; omega)
      obtain ⟨q1, q2, q3⟩ := hin k (by omega) h0
      have wr := wdt_rng hg (show F + k < 12 by omega)
      have eQ : (Int32.toInt64 (nI (F + k))).toInt = (F + k : Nat) := by rw [toI64, nI_toInt (by omega)]
      rw [if_neg hne, d6, nI_add, hasLeaf_eq d1 (by omega), bd_some, eQ, b01_t (by omega), if_neg (show ¬ (1 : Int32) = 0 by decide), rI_nI (by omega) (by decide), bi_some, rI_nI (by omega) (by decide), bi_some, d3 k (by omega), wI_nI (by omega) (by decide), bi_some]
      obtain ⟨M, hM⟩ : ∃ M, M = sI μ (a + 1) (F + k) (μ.1 (a + 1) (F + k) + v2 * nI (cnt D k)) := ⟨_, rfl⟩
      rw [← hM]
      have hMp : ∀ p, p ≠ a + 1 → M.1 p = μ.1 p := fun p hp => by rw [hM]; exact sI_pl hp
      have hdM : chd M a b1 g D F Y X := chd_of hd (hMp _ (by omega)) (hMp _ (by omega)) (hMp _ (by omega))
      obtain ⟨m1, m2, m3, m4, m5, m6, m7, m8⟩ := id hdM
      unfold f_X0_stackHigh
      rw [rI_nI (by omega) (by decide), bi_some, m3 k (by omega), m5, pk_mul, bd_some, m2, m7, nI_add]
      have e1 : iMin (nI (gLen g)) (nI (Y + cnt D k * dPh D)) = nI (Y + cnt D k * dPh D) := by
        rw [iz_nat, iz_nat, iMin_iz (by omega) (by omega) (by omega) (by omega)]; congr 1; omega
      have e2 : iMax 0 (nI Y) = nI Y := by
        rw [iz_nat, iz0, iMax_iz (by omega) (by omega) (by omega) (by omega)]; exact congrArg iz (by omega)
      rw [e1, e2]
      obtain ⟨r, e, r1, r2⟩ := ch_in (a := a) (b1 := b1) (i := F + k) (B := Y + cnt D k * dPh D) (X := X) (w := dPw D) (v2 := v2) (v3 := nI k) (K := fun μ17 => f_X4_changeCuts_L2 a b1 v2 (fun μ18 => some μ18) n' (nI k + (1 : Int32)) μ17) (by omega) (by omega) (by omega) 60 FU Y M m8 m4 (by omega) (by omega) (by decide)
      rw [e, nI_s]
      obtain ⟨s, e3, s1, s2, s3⟩ := ih n' (k + 1) r (by omega) (by omega) (chd_of hdM (by rw [r1]) (by rw [r1]) (by rw [r1]))
      refine ⟨s, e3, fun p hp => by rw [s1 p hp, r1, hMp p hp], fun i hi => ?_, ?_⟩
      · rw [s2 i hi, r1, hM]
        unfold cv
        by_cases c : i = F + k
        · rw [c, sI_same, if_neg (by omega), if_pos (by omega), Nat.add_sub_cancel_left, show nI 0 = (0 : Int32) from rfl, Int32.mul_zero, Int32.add_zero]
        · rw [sI_sl c]
          by_cases c2 : F + (k + 1) ≤ i ∧ i < F + 10
          · rw [if_pos c2, if_pos (by omega)]
          · rw [if_neg c2, if_neg (by omega)]
      · have hx1 : xoR μ r a (bxB (F + k) Y (Y + cnt D k * dPh D) X (dPw D)) := by
          have : M.2 = μ.2 := by rw [hM]; rfl
          refine ⟨fun p hp => by rw [r2.1 p hp, this], fun i y x h1 h2 h3 => by rw [r2.2 i y x h1 h2 h3, this]⟩
        refine xoR.tr hx1 s3 (fun i y x h1 h2 h3 => ?_)
        unfold bxB dB
        by_cases c : i = F + k
        · rw [decide_eq_false (show ¬ (F + (k + 1) ≤ i ∧ _) by omega), Bool.xor_false]
          apply decide_eq_decide.mpr
          rw [c, Nat.add_sub_cancel_left]
          omega
        · rw [decide_eq_false (show ¬ (i = F + k ∧ _) by omega), Bool.false_xor]
          apply decide_eq_decide.mpr
          constructor
          · rintro ⟨q1, q2⟩; exact ⟨by omega, q2⟩
          · rintro ⟨q1, q2⟩; exact ⟨by omega, q2⟩
theorem changeC {a b1 F Y X : Nat} {g : LogD} {D : DoorD} {v2 : Int32} {μ : Mem} (hg : WFg g) (wd : WFd D) (ha : a + 1 < b1) (hin : ∀ o, o < 10 → cnt D o ≠ 0 → F + o < gN g ∧ X + dPw D ≤ wdt g (F + o) ∧ Y + cnt D o * dPh D ≤ gLen g) (hF : F ≤ 12) (hd : chd μ a b1 g D F Y X) : ∃ r, f_X4_changeCuts a b1 v2 μ = some r ∧ (∀ p, p ≠ a + 1 → r.1 p = μ.1 p) ∧ (∀ i, i < 12 → r.1 (a + 1) i = μ.1 (a + 1) i + v2 * nI (cv D F 0 i)) ∧ xoR μ r a (dB D F Y X 0) := by
  obtain ⟨r, e, h⟩ := ch_out (v2 := v2) hg wd ha hin hF 10 FU 0 μ rfl (by decide) hd
  exact ⟨r, e, h⟩
