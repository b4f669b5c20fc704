/-! door: the class's square of cells -/
theorem iz_ltn {b : Int} {a : Nat} (h1 : -1000000 ≤ b) (h2 : b ≤ 1000000) (h3 : a ≤ 1000000) : iz b < nI a ↔ b < (a : Int) := by
  rw [iz_nat, iz_lt (by omega) (by omega) (by omega) (by omega)]
def cel (μ : Mem) (x y : Nat) : Int32 := μ.1 5 (8 * y + x)
def fr5 (μ r : Mem) : Prop := (∀ b, b ≠ 5 → r.1 b = μ.1 b) ∧ r.2 = μ.2
theorem fr5.rf {μ : Mem} : fr5 μ μ := ⟨fun _ _ => rfl, rfl⟩
theorem fr5.tr {a b c : Mem} (h1 : fr5 a b) (h2 : fr5 b c) : fr5 a c := ⟨fun q p => (h2.1 q p).trans (h1.1 q p), h2.2.trans h1.2⟩
theorem cellAt4 {μ : Mem} {x y : Nat} (hx : x ≤ 1000) (hy : y ≤ 1000) : f_X1_cellAt 4 (nI x) (nI y) μ = some (if x < 8 ∧ y < 8 then cel μ x y else -1, μ) := by
  unfold f_X1_cellAt
  have h0 : ¬ nI x < (0 : Int32) := by rw [iz0, iz_nat, iz_lt (by omega) (by omega) (by omega) (by omega)]; omega
  have h1 : ¬ nI y < (0 : Int32) := by rw [iz0, iz_nat, iz_lt (by omega) (by omega) (by omega) (by omega)]; omega
  have c2 : (8 : Int32) ≤ nI x ↔ 8 ≤ x := by rw [show (8 : Int32) = iz 8 by decide, iz_nat, iz_le (by omega) (by omega) (by omega) (by omega)]; omega
  have c3 : (8 : Int32) ≤ nI y ↔ 8 ≤ y := by rw [show (8 : Int32) = iz 8 by decide, iz_nat, iz_le (by omega) (by omega) (by omega) (by omega)]; omega
  rw [if_neg h0]
  by_cases hx8 : 8 ≤ x
  · rw [if_pos (c2.mpr hx8), if_neg (by omega)]
  · rw [if_neg (fun z => hx8 (c2.mp z)), if_neg h1]
    by_cases hy8 : 8 ≤ y
    · rw [if_pos (c3.mpr hy8), if_neg (by omega)]
    · have e : nI y * 8 + nI x = nI (8 * y + x) := by rw [show (8 : Int32) = nI 8 from rfl, pk_mul, nI_add, Nat.mul_comm]
      rw [if_neg (fun z => hy8 (c3.mp z)), e, rI_nI (by omega) (by decide), bi_some, if_pos (by omega)]; rfl
theorem setCell4 {μ : Mem} {x y : Nat} {v : Int32} (hx : x ≤ 1000) (hy : y ≤ 1000) : ∃ r, f_X1_setCell 4 (nI x) (nI y) v μ = some r ∧ fr5 μ r ∧ (x < 8 → y < 8 → cel r x y = v) ∧ ∀ x2 y2, x2 < 8 → y2 < 8 → ¬ (x2 = x ∧ y2 = y) → cel r x2 y2 = cel μ x2 y2 := by
  unfold f_X1_setCell
  have h0 : ¬ nI x < (0 : Int32) := by rw [iz0, iz_nat, iz_lt (by omega) (by omega) (by omega) (by omega)]; omega
  have h1 : ¬ nI y < (0 : Int32) := by rw [iz0, iz_nat, iz_lt (by omega) (by omega) (by omega) (by omega)]; omega
  have c2 : (8 : Int32) ≤ nI x ↔ 8 ≤ x := by rw [show (8 : Int32) = iz 8 by decide, iz_nat, iz_le (by omega) (by omega) (by omega) (by omega)]; omega
  have c3 : (8 : Int32) ≤ nI y ↔ 8 ≤ y := by rw [show (8 : Int32) = iz 8 by decide, iz_nat, iz_le (by omega) (by omega) (by omega) (by omega)]; omega
  rw [if_neg h0]
  by_cases hx8 : 8 ≤ x
  · rw [if_pos (c2.mpr hx8)]
    exact ⟨μ, rfl, fr5.rf, fun h => by omega, fun _ _ _ _ _ => rfl⟩
  · rw [if_neg (fun z => hx8 (c2.mp z)), if_neg h1]
    by_cases hy8 : 8 ≤ y
    · rw [if_pos (c3.mpr hy8)]
      exact ⟨μ, rfl, fr5.rf, fun _ h => by omega, fun _ _ _ _ _ => rfl⟩
    · have e : nI y * 8 + nI x = nI (8 * y + x) := by rw [show (8 : Int32) = nI 8 from rfl, pk_mul, nI_add, Nat.mul_comm]
      rw [if_neg (fun z => hy8 (c3.mp z)), e, wI_nI (by omega) (by decide), bi_some]
      refine ⟨_, rfl, ⟨fun b hb => sI_pl hb, rfl⟩, fun _ _ => sI_same _ _ _ _, fun x2 y2 h2 h3 h4 => ?_⟩
      exact sI_sl (by omega)
theorem sideL {y : Nat} {v1 v2 v3 v4 : Int32} {K : Mem → Option Mem} (hy : y ≤ 1000) : ∀ (m n a : Nat) (b : Int) (μ : Mem), b - a + 1 ≤ m → m < n → a ≤ 2000 → -2 ≤ b → b ≤ 1000 → ∃ r, f_X1_changeSides_L22 4 v1 v2 v3 v4 (nI y) K n (nI a) (iz b) μ = K r ∧ fr5 μ r ∧ (∀ x2 y2, x2 < 8 → y2 < 8 → ¬ (y2 = y ∧ a ≤ x2 ∧ (x2 : Int) ≤ b) → cel r x2 y2 = cel μ x2 y2) ∧ (y < 8 → b < 8 → ∀ x : Nat, a ≤ x → (x : Int) ≤ b → cel r x y = cel μ ((a : Int) + b - x).toNat y ^^^ 16) := by
  intro m
  induction m with
  | zero =>
    intro n a b μ hb hn ha h1 h2
    obtain ⟨n', rfl⟩ : ∃ n', n = n' + 1 := ⟨n - 1, by omega⟩
    have hlt : iz b < nI a := (iz_ltn (by omega) (by omega) (by omega)).mpr (by omega)
    exact ⟨μ, by rw [f_X1_changeSides_L22, if_pos hlt], fr5.rf, fun _ _ _ _ _ => rfl, fun _ _ x h3 h4 => by omega⟩
  | succ m ih =>
    intro n a b μ hb hn ha h1 h2
    obtain ⟨n', rfl⟩ : ∃ n', n = n' + 1 := ⟨n - 1, by omega⟩
    by_cases hba : b < a
    · have hlt : iz b < nI a := (iz_ltn (by omega) (by omega) (by omega)).mpr (by omega)
      exact ⟨μ, by rw [f_X1_changeSides_L22, if_pos hlt], fr5.rf, fun _ _ _ _ _ => rfl, fun _ _ x h3 h4 => by omega⟩
    · obtain ⟨B, rfl⟩ : ∃ B : Nat, b = B := ⟨b.toNat, by omega⟩
      have hge : ¬ iz (B : Int) < nI a := fun z => hba ((iz_ltn (by omega) (by omega) (by omega)).mp z)
      rw [f_X1_changeSides_L22, if_neg hge, ← iz_nat B, cellAt4 (by omega) hy, bd_some, cellAt4 (by omega) hy, bd_some]
      obtain ⟨r1, e1, f1, s1, o1⟩ := setCell4 (μ := μ) (x := a) (y := y) (v := (if B < 8 ∧ y < 8 then cel μ B y else -1) ^^^ 16) (by omega) hy
      obtain ⟨r2, e2, f2, s2, o2⟩ := setCell4 (μ := r1) (x := B) (y := y) (v := (if a < 8 ∧ y < 8 then cel μ a y else -1) ^^^ 16) (by omega) hy
      have e3 : nI B + (-1) = iz ((B : Int) - 1) := by rw [iz_nat, show (-1 : Int32) = iz (-1) by decide, iz_add]; exact congrArg iz (by omega)
      rw [e1, bi_some, e2, bi_some, nI_s, e3]
      obtain ⟨r, e, f, o, v⟩ := ih n' (a + 1) ((B : Int) - 1) r2 (by omega) (by omega) (by omega) (by omega) (by omega)
      refine ⟨r, e, fr5.tr f1 (fr5.tr f2 f), fun x2 y2 h3 h4 h5 => ?_, fun h3 h4 x h5 h6 => ?_⟩
      · rw [o x2 y2 h3 h4 (by omega), o2 x2 y2 h3 h4 (by omega), o1 x2 y2 h3 h4 (by omega)]
      · have hB8 : B < 8 := by omega
        by_cases c1 : x = a
        · subst c1
          have e4 : ((x : Int) + (B : Int) - (x : Int)).toNat = B := by omega
          rw [e4, o x y (by omega) h3 (by omega)]
          by_cases c2 : x = B
          · subst c2; rw [s2 (by omega) h3, if_pos ⟨by omega, h3⟩]
          · rw [o2 x y (by omega) h3 (by omega), s1 (by omega) h3, if_pos ⟨hB8, h3⟩]
        · by_cases c2 : x = B
          · subst c2
            have e4 : ((a : Int) + (x : Int) - (x : Int)).toNat = a := by omega
            rw [e4, o x y (by omega) h3 (by omega), s2 hB8 h3, if_pos ⟨by omega, h3⟩]
          · rw [v h3 (by omega) x (by omega) (by omega)]
            have e4 : (((a + 1 : Nat) : Int) + ((B : Int) - 1) - (x : Int)).toNat = ((a : Int) + (B : Int) - (x : Int)).toNat := by omega
            rw [e4, o2 _ y (by omega) h3 (by omega), o1 _ y (by omega) h3 (by omega)]
theorem sidesL {L Tp w h : Nat} {K : Mem → Option Mem} (hL : L ≤ 300) (hT : Tp ≤ 300) (hw : 1 ≤ w) (hw8 : w ≤ 8) (hh : h ≤ 8) : ∀ (m n y : Nat) (μ : Mem), y + m = Tp + h → m < n → ∃ r, f_X1_changeSides_L3 4 (nI L) (nI Tp) (nI w) (nI h) K n (nI y) μ = K r ∧ fr5 μ r ∧ (∀ x2 y2, x2 < 8 → y2 < 8 → ¬ (y ≤ y2 ∧ y2 < Tp + h ∧ L ≤ x2 ∧ x2 < L + w) → cel r x2 y2 = cel μ x2 y2) ∧ (L + w ≤ 8 → ∀ x2 y2, y2 < 8 → y ≤ y2 → y2 < Tp + h → L ≤ x2 → x2 < L + w → cel r x2 y2 = cel μ (2 * L + w - 1 - x2) y2 ^^^ 16) := by
  intro m
  induction m with
  | zero =>
    intro n y μ hy hn
    obtain ⟨n', rfl⟩ : ∃ n', n = n' + 1 := ⟨n - 1, by omega⟩
    exact ⟨μ, by rw [f_X1_changeSides_L3, nI_add, if_pos (nI_le (by omega) (by omega))], fr5.rf, fun _ _ _ _ _ => rfl, fun _ x2 y2 h1 h2 h3 => by omega⟩
  | succ m ih =>
    intro n y μ hy hn
    obtain ⟨n', rfl⟩ : ∃ n', n = n' + 1 := ⟨n - 1, by omega⟩
    have e1 : nI L + nI w - 1 = iz ((L : Int) + w - 1) := by rw [nI_add, iz_nat, show (1 : Int32) = iz 1 by decide, iz_sub]; exact congrArg iz (by omega)
    rw [f_X1_changeSides_L3, nI_add, if_neg (nI_ge (by omega) (by omega)), e1]
    obtain ⟨r1, e2, f1, o1, v1⟩ := sideL (y := y) (v1 := nI L) (v2 := nI Tp) (v3 := nI w) (v4 := nI h) (K := fun μ9 => f_X1_changeSides_L3 4 (nI L) (nI Tp) (nI w) (nI h) K n' (nI y + (1 : Int32)) μ9) (by omega) 8 FU L ((L : Int) + w - 1) μ (by omega) (by decide) (by omega) (by omega) (by omega)
    rw [e2, nI_s]
    obtain ⟨r, e, f, o, v⟩ := ih n' (y + 1) r1 (by omega) (by omega)
    refine ⟨r, e, fr5.tr f1 f, fun x2 y2 h1 h2 h3 => ?_, fun h8 x2 y2 h1 h2 h3 h4 h5 => ?_⟩
    · rw [o x2 y2 h1 h2 (by omega), o1 x2 y2 h1 h2 (by omega)]
    · by_cases c : y2 = y
      · subst c
        rw [o x2 y2 (by omega) h1 (by omega), v1 h1 (by omega) x2 h4 (by omega)]
        have e4 : ((L : Int) + ((L : Int) + w - 1) - (x2 : Int)).toNat = 2 * L + w - 1 - x2 := by omega
        rw [e4]
      · rw [v h8 x2 y2 h1 (by omega) h3 h4 h5, o1 _ y2 (by omega) h1 (by omega)]
theorem endL {x : Nat} {v1 v2 v3 v4 : Int32} {K : Mem → Option Mem} (hx : x ≤ 1000) : ∀ (m n a : Nat) (b : Int) (μ : Mem), b - a + 1 ≤ m → m < n → a ≤ 2000 → -2 ≤ b → b ≤ 1000 → ∃ r, f_X1_changeEnds_L22 4 v1 v2 v3 v4 (nI x) K n (nI a) (iz b) μ = K r ∧ fr5 μ r ∧ (∀ x2 y2, x2 < 8 → y2 < 8 → ¬ (x2 = x ∧ a ≤ y2 ∧ (y2 : Int) ≤ b) → cel r x2 y2 = cel μ x2 y2) ∧ (x < 8 → b < 8 → ∀ y : Nat, a ≤ y → (y : Int) ≤ b → cel r x y = cel μ x ((a : Int) + b - y).toNat ^^^ 32) := by
  intro m
  induction m with
  | zero =>
    intro n a b μ hb hn ha h1 h2
    obtain ⟨n', rfl⟩ : ∃ n', n = n' + 1 := ⟨n - 1, by omega⟩
    have hlt : iz b < nI a := (iz_ltn (by omega) (by omega) (by omega)).mpr (by omega)
    exact ⟨μ, by rw [f_X1_changeEnds_L22, if_pos hlt], fr5.rf, fun _ _ _ _ _ => rfl, fun _ _ x h3 h4 => by omega⟩
  | succ m ih =>
    intro n a b μ hb hn ha h1 h2
    obtain ⟨n', rfl⟩ : ∃ n', n = n' + 1 := ⟨n - 1, by omega⟩
    by_cases hba : b < a
    · have hlt : iz b < nI a := (iz_ltn (by omega) (by omega) (by omega)).mpr (by omega)
      exact ⟨μ, by rw [f_X1_changeEnds_L22, if_pos hlt], fr5.rf, fun _ _ _ _ _ => rfl, fun _ _ x h3 h4 => by omega⟩
    · obtain ⟨B, rfl⟩ : ∃ B : Nat, b = B := ⟨b.toNat, by omega⟩
      have hge : ¬ iz (B : Int) < nI a := fun z => hba ((iz_ltn (by omega) (by omega) (by omega)).mp z)
      rw [f_X1_changeEnds_L22, if_neg hge, ← iz_nat B, cellAt4 hx (by omega), bd_some, cellAt4 hx (by omega), bd_some]
      obtain ⟨r1, e1, f1, s1, o1⟩ := setCell4 (μ := μ) (x := x) (y := a) (v := (if x < 8 ∧ B < 8 then cel μ x B else -1) ^^^ 32) hx (by omega)
      obtain ⟨r2, e2, f2, s2, o2⟩ := setCell4 (μ := r1) (x := x) (y := B) (v := (if x < 8 ∧ a < 8 then cel μ x a else -1) ^^^ 32) hx (by omega)
      have e3 : nI B + (-1) = iz ((B : Int) - 1) := by rw [iz_nat, show (-1 : Int32) = iz (-1) by decide, iz_add]; exact congrArg iz (by omega)
      rw [e1, bi_some, e2, bi_some, nI_s, e3]
      obtain ⟨r, e, f, o, v⟩ := ih n' (a + 1) ((B : Int) - 1) r2 (by omega) (by omega) (by omega) (by omega) (by omega)
      refine ⟨r, e, fr5.tr f1 (fr5.tr f2 f), fun x2 y2 h3 h4 h5 => ?_, fun h3 h4 y h5 h6 => ?_⟩
      · rw [o x2 y2 h3 h4 (by omega), o2 x2 y2 h3 h4 (by omega), o1 x2 y2 h3 h4 (by omega)]
      · have hB8 : B < 8 := by omega
        by_cases c1 : y = a
        · subst c1
          have e4 : ((y : Int) + (B : Int) - (y : Int)).toNat = B := by omega
          rw [e4, o x y h3 (by omega) (by omega)]
          by_cases c2 : y = B
          · subst c2; rw [s2 h3 (by omega), if_pos ⟨h3, by omega⟩]
          · rw [o2 x y h3 (by omega) (by omega), s1 h3 (by omega), if_pos ⟨h3, hB8⟩]
        · by_cases c2 : y = B
          · subst c2
            have e4 : ((a : Int) + (y : Int) - (y : Int)).toNat = a := by omega
            rw [e4, o x y h3 (by omega) (by omega), s2 h3 hB8, if_pos ⟨h3, by omega⟩]
          · rw [v h3 (by omega) y (by omega) (by omega)]
            have e4 : (((a + 1 : Nat) : Int) + ((B : Int) - 1) - (y : Int)).toNat = ((a : Int) + (B : Int) - (y : Int)).toNat := by omega
            rw [e4, o2 x _ h3 (by omega) (by omega), o1 x _ h3 (by omega) (by omega)]
theorem endsL {L Tp w h : Nat} {K : Mem → Option Mem} (hL : L ≤ 300) (hT : Tp ≤ 300) (hh : 1 ≤ h) (hw8 : w ≤ 8) (hh8 : h ≤ 8) : ∀ (m n x : Nat) (μ : Mem), x + m = L + w → m < n → ∃ r, f_X1_changeEnds_L3 4 (nI L) (nI Tp) (nI w) (nI h) K n (nI x) μ = K r ∧ fr5 μ r ∧ (∀ x2 y2, x2 < 8 → y2 < 8 → ¬ (x ≤ x2 ∧ x2 < L + w ∧ Tp ≤ y2 ∧ y2 < Tp + h) → cel r x2 y2 = cel μ x2 y2) ∧ (Tp + h ≤ 8 → ∀ x2 y2, x2 < 8 → x ≤ x2 → x2 < L + w → Tp ≤ y2 → y2 < Tp + h → cel r x2 y2 = cel μ x2 (2 * Tp + h - 1 - y2) ^^^ 32) := by
  intro m
  induction m with
  | zero =>
    intro n x μ hx hn
    obtain ⟨n', rfl⟩ : ∃ n', n = n' + 1 := ⟨n - 1, by omega⟩
    exact ⟨μ, by rw [f_X1_changeEnds_L3, nI_add, if_pos (nI_le (by omega) (by omega))], fr5.rf, fun _ _ _ _ _ => rfl, fun _ x2 y2 h1 h2 h3 => by omega⟩
  | succ m ih =>
    intro n x μ hx hn
    obtain ⟨n', rfl⟩ : ∃ n', n = n' + 1 := ⟨n - 1, by omega⟩
    have e1 : nI Tp + nI h - 1 = iz ((Tp : Int) + h - 1) := by rw [nI_add, iz_nat, show (1 : Int32) = iz 1 by decide, iz_sub]; exact congrArg iz (by omega)
    rw [f_X1_changeEnds_L3, nI_add L w, if_neg (nI_ge (by omega) (by omega)), e1]
    obtain ⟨r1, e2, f1, o1, v1⟩ := endL (x := x) (v1 := nI L) (v2 := nI Tp) (v3 := nI w) (v4 := nI h) (K := fun μ9 => f_X1_changeEnds_L3 4 (nI L) (nI Tp) (nI w) (nI h) K n' (nI x + (1 : Int32)) μ9) (by omega) 8 FU Tp ((Tp : Int) + h - 1) μ (by omega) (by decide) (by omega) (by omega) (by omega)
    rw [e2, nI_s]
    obtain ⟨r, e, f, o, v⟩ := ih n' (x + 1) r1 (by omega) (by omega)
    refine ⟨r, e, fr5.tr f1 f, fun x2 y2 h1 h2 h3 => ?_, fun h8 x2 y2 h1 h2 h3 h4 h5 => ?_⟩
    · rw [o x2 y2 h1 h2 (by omega), o1 x2 y2 h1 h2 (by omega)]
    · by_cases c : x2 = x
      · subst c
        rw [o x2 y2 h1 (by omega) (by omega), v1 h1 (by omega) y2 h4 (by omega)]
        have e4 : ((Tp : Int) + ((Tp : Int) + h - 1) - (y2 : Int)).toNat = 2 * Tp + h - 1 - y2 := by omega
        rw [e4]
      · rw [v h8 x2 y2 h1 (by omega) h3 h4 h5, o1 x2 _ h1 (by omega) (by omega)]
theorem repIn {L Tp w h t y : Nat} {K : Mem → Option Mem} {g : Nat → Int32} (hL : L ≤ 300) (hT : y ≤ 1000) (hw : 1 ≤ w) (hwt : w * t ≤ 80) : ∀ (m n a : Nat) (μ : Mem), a + m = L + w * t → m < n → L + w ≤ a → (y < 8 → L + w * t ≤ 8 → ∀ c, L + c < a → cel μ (L + c) y = g (c % w)) → ∃ r, f_X1_repeat_L17 4 (nI L) (nI Tp) (nI w) (nI h) (nI t) (nI y) K n (nI a) μ = K r ∧ fr5 μ r ∧ (∀ x2 y2, x2 < 8 → y2 < 8 → ¬ (y2 = y ∧ a ≤ x2 ∧ x2 < L + w * t) → cel r x2 y2 = cel μ x2 y2) ∧ (y < 8 → L + w * t ≤ 8 → ∀ c, c < w * t → cel r (L + c) y = g (c % w)) := by
  intro m
  induction m with
  | zero =>
    intro n a μ ha hn hla hg
    obtain ⟨n', rfl⟩ : ∃ n', n = n' + 1 := ⟨n - 1, by omega⟩
    refine ⟨μ, by rw [f_X1_repeat_L17, pk_mul, nI_add, if_pos (nI_le (by omega) (by omega))], fr5.rf, fun _ _ _ _ _ => rfl, fun h1 h2 c hc => hg h1 h2 c (by omega)⟩
  | succ m ih =>
    intro n a μ ha hn hla hg
    obtain ⟨n', rfl⟩ : ∃ n', n = n' + 1 := ⟨n - 1, by omega⟩
    have e1 : nI a - nI w = nI (a - w) := by rw [iz_nat, iz_nat, iz_sub, iz_nat]; exact congrArg iz (by omega)
    rw [f_X1_repeat_L17, pk_mul, nI_add, if_neg (nI_ge (by omega) (by omega)), e1, cellAt4 (by omega) hT, bd_some]
    obtain ⟨r1, e2, f1, s1, o1⟩ := setCell4 (μ := μ) (x := a) (y := y) (v := if a - w < 8 ∧ y < 8 then cel μ (a - w) y else -1) (by omega) hT
    rw [e2, bi_some, nI_s]
    obtain ⟨r, e, f, o, v⟩ := ih n' (a + 1) r1 (by omega) (by omega) (by omega) (fun h1 h2 c hc => by
      by_cases c1 : L + c = a
      · rw [c1, s1 (by omega) h1, if_pos ⟨by omega, h1⟩]
        have h3 := hg h1 h2 (c - w) (by omega)
        rw [show L + (c - w) = a - w by omega] at h3
        rw [h3, show c % w = (c - w) % w from Nat.mod_eq_sub_mod (by omega)]
      · rw [o1 _ y (by omega) h1 (by omega)]; exact hg h1 h2 c (by omega))
    refine ⟨r, e, fr5.tr f1 f, fun x2 y2 h1 h2 h3 => ?_, v⟩
    rw [o x2 y2 h1 h2 (by omega), o1 x2 y2 h1 h2 (by omega)]
theorem repL {L Tp w h t : Nat} {K : Mem → Option Mem} (hL : L ≤ 300) (hT : Tp ≤ 300) (hw : 1 ≤ w) (ht : 1 ≤ t) (hwt : w * t ≤ 80) (hh8 : h ≤ 8) : ∀ (m n y : Nat) (μ : Mem), y + m = Tp + h → m < n → ∃ r, f_X1_repeat_L3 4 (nI L) (nI Tp) (nI w) (nI h) (nI t) K n (nI y) μ = K r ∧ fr5 μ r ∧ (∀ x2 y2, x2 < 8 → y2 < 8 → ¬ (y ≤ y2 ∧ y2 < Tp + h ∧ L + w ≤ x2 ∧ x2 < L + w * t) → cel r x2 y2 = cel μ x2 y2) ∧ (L + w * t ≤ 8 → ∀ c y2, y2 < 8 → y ≤ y2 → y2 < Tp + h → c < w * t → cel r (L + c) y2 = cel μ (L + c % w) y2) := by
  intro m
  induction m with
  | zero =>
    intro n y μ hy hn
    obtain ⟨n', rfl⟩ : ∃ n', n = n' + 1 := ⟨n - 1, by omega⟩
    exact ⟨μ, by rw [f_X1_repeat_L3, nI_add, if_pos (nI_le (by omega) (by omega))], fr5.rf, fun _ _ _ _ _ => rfl, fun _ x2 y2 h1 h2 h3 => by omega⟩
  | succ m ih =>
    intro n y μ hy hn
    obtain ⟨n', rfl⟩ : ∃ n', n = n' + 1 := ⟨n - 1, by omega⟩
    have hwt2 : w ≤ w * t := Nat.le_mul_of_pos_right _ (by omega)
    rw [f_X1_repeat_L3, nI_add Tp h, if_neg (nI_ge (by omega) (by omega)), nI_add L w]
    obtain ⟨r1, e2, f1, o1, v1⟩ := repIn (L := L) (Tp := Tp) (w := w) (h := h) (t := t) (y := y) (g := fun c => cel μ (L + c) y) (K := fun μ6 => f_X1_repeat_L3 4 (nI L) (nI Tp) (nI w) (nI h) (nI t) K n' (nI y + (1 : Int32)) μ6) hL (by omega) hw hwt (w * t - w) FU (L + w) μ (by omega) (show w * t - w < 8192 by omega) (Nat.le_refl _) (fun h1 h2 c hc => by
      show cel μ (L + c) y = cel μ (L + c % w) y
      rw [Nat.mod_eq_of_lt (by omega)])
    rw [e2, nI_s]
    obtain ⟨r, e, f, o, v⟩ := ih n' (y + 1) r1 (by omega) (by omega)
    refine ⟨r, e, fr5.tr f1 f, fun x2 y2 h1 h2 h3 => ?_, fun h8 c y2 h1 h2 h3 h4 => ?_⟩
    · rw [o x2 y2 h1 h2 (by omega), o1 x2 y2 h1 h2 (by omega)]
    · have hm : c % w < w := Nat.mod_lt _ (by omega)
      by_cases c1 : y2 = y
      · subst c1
        rw [o _ y2 (by omega) h1 (by omega), v1 h1 h8 c h4]
      · rw [v h8 c y2 h1 (by omega) h3 h4, o1 _ y2 (by omega) h1 (by omega)]
