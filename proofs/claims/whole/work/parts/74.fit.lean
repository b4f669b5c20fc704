/-! place: what fits, and the first place that fits (class) -/
def okBox (S : List Strip) (l : Nat) (g : LogD) (i x y w h : Nat) : Prop := i < gN g ∧ x + w ≤ wdt g i ∧ y + h ≤ gLen g ∧ fiL (gF g) 0 (nI i) (nI x) (nI y) (nI w) (nI h) = none ∧ S.any (stB l i x y w h) = false
def FIT (S : List Strip) (l : Nat) (g : LogD) (D : DoorD) (F Y X : Nat) : Prop := ∀ o, o < 10 → cnt D o ≠ 0 → okBox S l g (F + o) X Y (dPw D) (cnt D o * dPh D)
def isFirst (P : Nat → Nat → Nat → Prop) (r : Option (Nat × Nat × Nat)) : Prop := match r with
  | none => ∀ f y x, ¬ P f y x
  | some q => P q.1 q.2.1 q.2.2 ∧ ∀ f y x, P f y x → ¬ (f < q.1 ∨ f = q.1 ∧ (y < q.2.1 ∨ y = q.2.1 ∧ x < q.2.2))
theorem first_eq {P : Nat → Nat → Nat → Prop} {r s : Option (Nat × Nat × Nat)} (h1 : isFirst P r) (h2 : isFirst P s) : r = s := by
  cases r with
  | none => cases s with
    | none => rfl
    | some q => exact absurd h2.1 (h1 _ _ _)
  | some q => cases s with
    | none => exact absurd h1.1 (h2 _ _ _)
    | some t =>
      obtain ⟨f, y, x⟩ := q
      obtain ⟨f2, y2, x2⟩ := t
      have a := h1.2 _ _ _ h2.1
      have b := h2.2 _ _ _ h1.1
      have : f = f2 ∧ y = y2 ∧ x = x2 := by
        simp only at a b
        omega
      obtain ⟨rfl, rfl, rfl⟩ := this
      rfl
theorem lim_L {μ : Mem} {d l F b : Nat} {g : LogD} {D : DoorD} {K : Int32 → Int32 → Mem → Option (Int32 × Mem)} (wd : WFd D) (hg : WFg g) (cg : Cg μ (11 + 15 * l) g) (cd : Cd μ (56 + 4 * d) D) (e7 : μ.1 (56 + 4 * d) 7 = nI b) (hb : b < 10) (hF : F + b < 12) : ∀ (m n k : Nat) (x0 y0 : Int), k + m = b + 1 → m < n → -10000 ≤ x0 → x0 ≤ 1000 → -10000 ≤ y0 → y0 ≤ 1000 → ∃ x1 y1 : Int, f_X2_findFrom_L34 (56 + 4 * d) (11 + 15 * l) (nI F) K n (iz x0) (iz y0) (nI k) μ = K (iz x1) (iz y1) μ ∧ (-10000 ≤ x1 ∧ x1 ≤ 1000 ∧ -10000 ≤ y1 ∧ y1 ≤ 1000) ∧ (∀ z : Int, z ≤ x1 ↔ z ≤ x0 ∧ ∀ o, k ≤ o → o ≤ b → cnt D o ≠ 0 → z + dPw D ≤ wdt g (F + o)) ∧ (∀ z : Int, z ≤ y1 ↔ z ≤ y0 ∧ ∀ o, k ≤ o → o ≤ b → cnt D o ≠ 0 → z + ((cnt D o * dPh D : Nat) : Int) ≤ gLen g) := by
  intro m
  induction m with
  | zero =>
    intro n k x0 y0 hk hn a1 a2 a3 a4
    obtain ⟨n', rfl⟩ : ∃ n', n = n' + 1 := ⟨n - 1, by omega⟩
    have hlt : nI b < nI k := by rw [iz_nat, iz_nat, iz_lt (by omega) (by omega) (by omega) (by omega)]; omega
    exact ⟨x0, y0, by rw [f_X2_findFrom_L34, e7, if_pos hlt], ⟨a1, a2, a3, a4⟩, fun z => ⟨fun h => ⟨h, fun o h1 h2 => by omega⟩, fun h => h.1⟩, fun z => ⟨fun h => ⟨h, fun o h1 h2 => by omega⟩, fun h => h.1⟩⟩
  | succ m ih =>
    intro n k x0 y0 hk hn a1 a2 a3 a4
    obtain ⟨n', rfl⟩ : ∃ n', n = n' + 1 := ⟨n - 1, by omega⟩
    have hge : ¬ nI b < nI k := by rw [iz_nat, iz_nat, iz_lt (by omega) (by omega) (by omega) (by omega)]; omega
    have hc6 := cnt_le wd k
    rw [f_X2_findFrom_L34, e7, if_neg hge, rI_nI (by omega) (by decide), bi_some, cd.2.2.2.2.2.2.2.1 k (by omega)]
    by_cases h0 : cnt D k = 0
    · rw [if_pos (by rw [h0]; decide), nI_s]
      obtain ⟨x1, y1, e, q0, q1, q2⟩ := ih n' (k + 1) x0 y0 (by omega) (by omega) a1 a2 a3 a4
      refine ⟨x1, y1, e, q0, fun z => (q1 z).trans ⟨fun h => ⟨h.1, fun o h1 h2 h3 => ?_⟩, fun h => ⟨h.1, fun o h1 h2 h3 => h.2 o (by omega) h2 h3⟩⟩, fun z => (q2 z).trans ⟨fun h => ⟨h.1, fun o h1 h2 h3 => ?_⟩, fun h => ⟨h.1, fun o h1 h2 h3 => h.2 o (by omega) h2 h3⟩⟩⟩
      · by_cases e : o = k
        · rw [e] at h3; exact absurd h0 h3
        · exact h.2 o (by omega) h2 h3
      · by_cases e : o = k
        · rw [e] at h3; exact absurd h0 h3
        · exact h.2 o (by omega) h2 h3
    · have hpos : ¬ nI (cnt D k) ≤ 0 := by rw [iz0, iz_nat, iz_le (by omega) (by omega) (by omega) (by omega)]; omega
      have wr := wdt_rng hg (show F + k < 12 by omega)
      have p1 := wd.2.2.2.2.2.1
      have p2 := wd.2.2.2.2.2.2.1
      have p4 := wd.2.2.2.2.2.2.2.2.1
      have hlen := hg.2.2.2.1
      have hmh := mh_rng (k := cnt D k) (h := dPh D) hc6 p4
      rw [if_neg hpos, nI_add, widthOf_eq hg cg (by omega), bd_some, stack_eq cd (by omega), bd_some, cd.2.2.2.2.1, cg.2.2.1, nI_s, iz_nat (wdt g (F + k)), iz_nat (dPw D), iz_nat (gLen g), iz_nat (cnt D k * dPh D), iz_sub, iz_sub, iMin_iz (by omega) (by omega) (by omega) (by omega), iMin_iz (by omega) (by omega) (by omega) (by omega)]
      obtain ⟨x1, y1, e, q0, q1, q2⟩ := ih n' (k + 1) (min x0 ((wdt g (F + k) : Int) - (dPw D : Nat))) (min y0 ((gLen g : Int) - ((cnt D k * dPh D : Nat) : Int))) (by omega) (by omega) (by omega) (by omega) (by omega) (by omega)
      refine ⟨x1, y1, e, q0, fun z => (q1 z).trans ⟨fun h => ⟨by omega, fun o h1 h2 h3 => ?_⟩, fun h => ⟨?_, fun o h1 h2 h3 => h.2 o (by omega) h2 h3⟩⟩, fun z => (q2 z).trans ⟨fun h => ⟨by omega, fun o h1 h2 h3 => ?_⟩, fun h => ⟨?_, fun o h1 h2 h3 => h.2 o (by omega) h2 h3⟩⟩⟩
      · by_cases e : o = k
        · rw [e]; have := h.1; omega
        · exact h.2 o (by omega) h2 h3
      · have := h.2 k (by omega) (by omega) h0; have := h.1; omega
      · by_cases e : o = k
        · rw [e]; have := h.1; omega
        · exact h.2 o (by omega) h2 h3
      · have := h.2 k (by omega) (by omega) h0; have := h.1; omega
theorem fit_bits {n : Nat} {σ : St} {μ : Mem} {l d F Y X a0 b : Nat} {g : LogD} {D : DoorD} {t : Int64} (hw : WF n σ) (hc : RC σ μ) (hl : l < 3) (hL : σL σ l = some g) (wd : WFd D) (hla : isLeast D a0) (hgb : isGreat D b) (hb : b < 10) (hF : F + b < gN g) (hX : ∀ o, o < 10 → cnt D o ≠ 0 → X + dPw D ≤ wdt g (F + o)) (hY : ∀ o, o < 10 → cnt D o ≠ 0 → Y + cnt D o * dPh D ≤ gLen g) (ht : ∀ x, x < 64 → (bitL t x = true ↔ ∃ o, a0 ≤ o ∧ o ≤ b ∧ ∃ y2, Y ≤ y2 ∧ y2 < Y + cnt D o * dPh D ∧ (bitL (μ.2 (11 + 15 * l + 3) (60 * (F + o) + y2)) x = true ∨ bitL (μ.2 (11 + 15 * l + 4) (60 * (F + o) + y2)) x = true))) : t &&& mk64 X (dPw D) = 0 ↔ FIT (σS σ) l g D F Y X := by
  have hg := (hw.1 l g hL).2
  have cg : Cg μ (11 + 15 * l) g := by have := hc.1 l hl; rw [hL] at this; exact this
  have hN := hg.2.1
  have hlen := hg.2.2.2.1
  have p1 := wd.2.2.2.2.2.1
  have p3 := wd.2.2.2.2.2.2.2.1
  have hne : ∀ s ∈ σS σ, 1 ≤ tW s ∧ 1 ≤ tH s := fun s hs => by
    have := hw.2.2.1 s hs
    exact ⟨this.2.2.1, this.2.2.2.1⟩
  have hin : ∀ o, o < 10 → cnt D o ≠ 0 → a0 ≤ o ∧ o ≤ b := fun o ho h => by
    constructor
    · apply Classical.byContradiction; intro q; exact h (hla.2 o (by omega))
    · apply Classical.byContradiction; intro q; exact h (hgb.2 o (by omega) ho)
  have key : ∀ o, o < 10 → cnt D o ≠ 0 → (okBox (σS σ) l g (F + o) X Y (dPw D) (cnt D o * dPh D) ↔ boxB μ (11 + 15 * l + 3) (F + o) X Y (dPw D) (cnt D o * dPh D) = false ∧ boxB μ (11 + 15 * l + 4) (F + o) X Y (dPw D) (cnt D o * dPh D) = false) := by
    intro o ho h
    have h1 := hin o ho h
    have hx := hX o ho h
    have hy := hY o ho h
    have wr := wdt_rng hg (show F + o < 12 by omega)
    have hh : 1 ≤ cnt D o * dPh D := Nat.mul_pos (by omega) (by omega)
    have f1 := flaw_same (x := X) (y := Y) (w := dPw D) (h := cnt D o * dPh D) hg cg (show F + o < gN g by omega) hx hy p1 hh
    have f2 := cut_same (x := X) (y := Y) (w := dPw D) (h := cnt D o * dPh D) hc.2.2.1 hl hL (show F + o < 12 by omega) (by omega) (by omega) p1 hh hne
    unfold okBox
    constructor
    · rintro ⟨-, -, -, h4, h5⟩
      constructor
      · apply Bool.eq_false_iff.mpr; intro q; exact f1.mp q h4
      · apply Bool.eq_false_iff.mpr; intro q; rw [f2.mp q] at h5; cases h5
    · rintro ⟨h4, h5⟩
      refine ⟨by omega, hx, hy, ?_, ?_⟩
      · apply Classical.byContradiction; intro q; rw [f1.mpr q] at h4; cases h4
      · apply Bool.eq_false_iff.mpr; intro q; rw [f2.mpr q] at h5; cases h5
  rw [mask0]
  constructor
  · intro h o ho hq
    rw [key o ho hq]
    have h1 := hin o ho hq
    have hx := hX o ho hq
    have wr := wdt_rng hg (show F + o < 12 by omega)
    constructor
    · apply Bool.eq_false_iff.mpr; intro q
      obtain ⟨y2, x2, b1, b2, b3, b4, b5⟩ := (boxB_iff (by omega)).mp q
      have := h x2 (by omega) b3 b4
      rw [(ht x2 (by omega)).mpr ⟨o, h1.1, h1.2, y2, b1, b2, Or.inl b5⟩] at this
      cases this
    · apply Bool.eq_false_iff.mpr; intro q
      obtain ⟨y2, x2, b1, b2, b3, b4, b5⟩ := (boxB_iff (by omega)).mp q
      have := h x2 (by omega) b3 b4
      rw [(ht x2 (by omega)).mpr ⟨o, h1.1, h1.2, y2, b1, b2, Or.inr b5⟩] at this
      cases this
  · intro h x2 h1 h2 h3
    apply Bool.eq_false_iff.mpr; intro q
    obtain ⟨o, c1, c2, y2, c3, c4, c5⟩ := (ht x2 h1).mp q
    have ho : o < 10 := by omega
    have hq : cnt D o ≠ 0 := by intro z; rw [z] at c4; omega
    have hx := hX o ho hq
    have wr := wdt_rng hg (show F + o < 12 by omega)
    have := (key o ho hq).mp (h o ho hq)
    rcases c5 with c5 | c5
    · have z := (boxB_iff (μ := μ) (p := 11 + 15 * l + 3) (i := F + o) (x := X) (y := Y) (w := dPw D) (h := cnt D o * dPh D) (by omega)).mpr ⟨y2, x2, c3, c4, h2, h3, c5⟩
      rw [this.1] at z; cases z
    · have z := (boxB_iff (μ := μ) (p := 11 + 15 * l + 4) (i := F + o) (x := X) (y := Y) (w := dPw D) (h := cnt D o * dPh D) (by omega)).mpr ⟨y2, x2, c3, c4, h2, h3, c5⟩
      rw [this.2] at z; cases z
