/-! place: the class's search -/
def found (μ : Mem) (f y x : Nat) : Mem := sI (sI (sI μ 9 0 (nI f)) 9 1 (nI y)) 9 2 (nI x)
theorem scC_found {μ : Mem} {f y x : Nat} : scC μ (found μ f y x) := by
  refine ⟨fun b _ _ _ h _ _ _ _ _ => ?_, ?_, ?_, rfl⟩
  · unfold found; rw [sI_pl h, sI_pl h, sI_pl h]
  · unfold found; rw [sI_pl (by decide), sI_pl (by decide), sI_pl (by decide)]
  · unfold found; rw [sI_pl (by decide), sI_pl (by decide), sI_pl (by decide)]
theorem found_at {μ : Mem} {f y x : Nat} : (found μ f y x).1 9 0 = nI f ∧ (found μ f y x).1 9 1 = nI y ∧ (found μ f y x).1 9 2 = nI x := by
  unfold found
  refine ⟨?_, ?_, sI_same _ _ _ _⟩
  · rw [sI_sl (by decide), sI_sl (by decide), sI_same]
  · rw [sI_sl (by decide), sI_same]
theorem row_L {n : Nat} {σ : St} {μ : Mem} {l d F a0 b : Nat} {x1 y1 : Int} {g : LogD} {D : DoorD} {K : Mem → Option (Int32 × Mem)} (hw : WF n σ) (hc : RC σ μ) (hl : l < 3) (hL : σL σ l = some g) (hd : d < 8) (hD : σD σ d = some D) (hla : isLeast D a0) (hgb : isGreat D b) (ha : a0 < 10) (hb : b < 10) (e6 : μ.1 (56 + 4 * d) 6 = nI a0) (e7 : μ.1 (56 + 4 * d) 7 = nI b) (hF : F + b < gN g) (hr : -10000 ≤ x1 ∧ x1 ≤ 1000 ∧ -10000 ≤ y1 ∧ y1 ≤ 1000) (hx1 : ∀ z : Int, z ≤ x1 ↔ ∀ o, o < 10 → cnt D o ≠ 0 → z + dPw D ≤ wdt g (F + o)) (hy1 : ∀ z : Int, z ≤ y1 ↔ ∀ o, o < 10 → cnt D o ≠ 0 → z + ((cnt D o * dPh D : Nat) : Int) ≤ gLen g) : ∀ (m q k : Nat), k + m = 61 → m < q → (f_X2_findFrom_L100 (56 + 4 * d) (11 + 15 * l) (nI F) (iz x1) (iz y1) K q (nI k) μ = K μ ∧ ∀ y x, k ≤ y → ¬ FIT (σS σ) l g D F y x) ∨ ∃ y x, f_X2_findFrom_L100 (56 + 4 * d) (11 + 15 * l) (nI F) (iz x1) (iz y1) K q (nI k) μ = some (1, found μ F y x) ∧ k ≤ y ∧ FIT (σS σ) l g D F y x ∧ ∀ y2 x2, k ≤ y2 → FIT (σS σ) l g D F y2 x2 → ¬ (y2 < y ∨ y2 = y ∧ x2 < x) := by
  have wd := (hw.2.1 d D hD).2
  have hg := (hw.1 l g hL).2
  have cg : Cg μ (11 + 15 * l) g := by have := hc.1 l hl; rw [hL] at this; exact this
  have cd : Cd μ (56 + 4 * d) D := by have := hc.2.1 d hd; rw [hD] at this; exact this
  have hN := hg.2.1
  have hlen := hg.2.2.2.1
  have p1 := wd.2.2.2.2.2.1
  have p3 := wd.2.2.2.2.2.2.2.1
  have hab : a0 ≤ b := by
    apply Classical.byContradiction; intro h; exact hgb.1 (hla.2 b (by omega))
  -- a fit lies within the limits
  have lim : ∀ y x, FIT (σS σ) l g D F y x → (x : Int) ≤ x1 ∧ (y : Int) ≤ y1 := by
    intro y x h
    constructor
    · rw [hx1]; intro o ho hq; have := (h o ho hq).2.1; omega
    · rw [hy1]; intro o ho hq; have := (h o ho hq).2.2.1; omega
  have hy60 : y1 ≤ 59 := by
    have h := (hy1 y1).mp (Int.le_refl _) a0 ha hla.1
    have hh : 1 ≤ cnt D a0 * dPh D := Nat.mul_pos (Nat.pos_of_ne_zero hla.1) (by omega)
    omega
  have hx62 : x1 + dPw D ≤ 62 := by
    have h := (hx1 x1).mp (Int.le_refl _) a0 ha hla.1
    have wr := wdt_rng hg (show F + a0 < 12 by omega)
    omega
  have out : ∀ k : Nat, y1 < k → ∀ y x, k ≤ y → ¬ FIT (σS σ) l g D F y x := fun k h y x h2 h3 => by
    have := (lim y x h3).2; omega
  intro m
  induction m with
  | zero =>
    intro q k hk hq
    obtain ⟨q', rfl⟩ : ∃ q', q = q' + 1 := ⟨q - 1, by omega⟩
    left
    refine ⟨?_, out k (by omega)⟩
    have g0 : iz y1 < nI k := (iz_lt (by omega) (by omega) (by omega) (by omega)).mpr (show y1 < (k : Int) by omega)
    rw [f_X2_findFrom_L100, if_pos g0]
  | succ m ih =>
    intro q k hk hq
    obtain ⟨q', rfl⟩ : ∃ q', q = q' + 1 := ⟨q - 1, by omega⟩
    by_cases h1 : y1 < k
    · left
      refine ⟨?_, out k h1⟩
      have g0 : iz y1 < nI k := (iz_lt (by omega) (by omega) (by omega) (by omega)).mpr h1
      rw [f_X2_findFrom_L100, if_pos g0]
    · have g1 : ¬ iz y1 < nI k := fun z => h1 ((iz_lt (by omega) (by omega) (by omega) (by omega)).mp z)
      by_cases h2 : x1 < 0
      · left
        refine ⟨?_, fun y x h3 h4 => by have := (lim y x h4).1; omega⟩
        have g2 : iz x1 < 0 := by rw [iz0]; exact (iz_lt (by omega) (by omega) (by omega) (by omega)).mpr h2
        rw [f_X2_findFrom_L100, if_neg g1, if_pos g2]
      · have g2 : ¬ iz x1 < 0 := by rw [iz0]; exact fun z => h2 ((iz_lt (by omega) (by omega) (by omega) (by omega)).mp z)
        obtain ⟨X, hX⟩ : ∃ X : Nat, x1 = X := ⟨x1.toNat, by omega⟩
        have hYl : ∀ o, o < 10 → cnt D o ≠ 0 → k + cnt D o * dPh D ≤ gLen g := fun o ho h => by
          have := (hy1 k).mp (by omega) o ho h
          omega
        have hXl : ∀ x : Nat, x ≤ X → ∀ o, o < 10 → cnt D o ≠ 0 → x + dPw D ≤ wdt g (F + o) := fun x hx o ho h => by
          have := (hx1 x).mp (by omega) o ho h
          omega
        obtain ⟨t, et, ht⟩ := tkC (a := 11 + 15 * l) (F := F) (Y := k) cd e6 e7 hab hb (by omega) (fun o ho h => by have := hYl o ho h; omega) (by omega)
        have bits : ∀ x : Nat, x ≤ X → (t &&& mk64 x (dPw D) = 0 ↔ FIT (σS σ) l g D F k x) := fun x hx => fit_bits (t := t) (d := d) hw hc hl hL wd hla hgb hb hF (hXl x hx) hYl ht
        rw [f_X2_findFrom_L100, if_neg g1, if_neg g2, et, bd_some, cd.2.2.2.2.1]
        unfold f_X2_firstFree
        rw [hX, ← iz_nat]
        rcases free_L (μ := μ) (t := t) (w := dPw D) (X := X) (K := fun μ5 => some ((-1 : Int32), μ5)) (by omega) p1 (X + 1) FU 0 (by omega) (show X + 1 < 8192 by omega) with ⟨e, hno⟩ | ⟨x, e, -, hx2, hx3, hx4⟩
        · rw [show nI 0 = (0 : Int32) from rfl] at e
          rw [e, bd_some, if_pos rfl, nI_s]
          have nof : ∀ x, ¬ FIT (σS σ) l g D F k x := fun x h => by
            have hx := (lim k x h).1
            exact hno x (by omega) (by omega) ((bits x (by omega)).mpr h)
          rw [hX, ← iz_nat] at ih
          rcases ih q' (k + 1) (by omega) (by omega) with ⟨e2, h4⟩ | ⟨y, x, e2, h4, h5, h6⟩
          · left
            refine ⟨e2, fun y x h7 h8 => ?_⟩
            by_cases e3 : y = k
            · rw [e3] at h8; exact nof x h8
            · exact h4 y x (by omega) h8
          · right
            refine ⟨y, x, e2, by omega, h5, fun y2 x2 h7 h8 => ?_⟩
            by_cases e3 : y2 = k
            · rw [e3] at h8; exact absurd h8 (nof x2)
            · exact h6 y2 x2 (by omega) h8
        · rw [show nI 0 = (0 : Int32) from rfl] at e
          have hne : ¬ nI x = (-1 : Int32) := by
            rw [show (-1 : Int32) = iz (-1) by decide, iz_nat]
            exact fun z => by have := (iz_eq (by omega) (by omega) (by omega) (by omega)).mp z; omega
          rw [e, bd_some, if_neg hne]
          right
          refine ⟨k, x, rfl, Nat.le_refl k, (bits x hx2).mp hx3, fun y2 x2 h7 h8 h9 => ?_⟩
          rcases h9 with h9 | ⟨h9, h10⟩
          · omega
          · rw [h9] at h8
            exact hx4 x2 (by omega) h10 ((bits x2 (by omega)).mpr h8)
theorem from_eq {n : Nat} {σ : St} {μ : Mem} {l d F a0 b : Nat} {g : LogD} {D : DoorD} (hw : WF n σ) (hc : RC σ μ) (hl : l < 3) (hL : σL σ l = some g) (hd : d < 8) (hD : σD σ d = some D) (hla : isLeast D a0) (hgb : isGreat D b) (ha : a0 < 10) (hb : b < 10) (e6 : μ.1 (56 + 4 * d) 6 = nI a0) (e7 : μ.1 (56 + 4 * d) 7 = nI b) (hF : F + b < gN g) : (f_X2_findFrom (56 + 4 * d) (11 + 15 * l) (nI F) μ = some (0, μ) ∧ ∀ y x, ¬ FIT (σS σ) l g D F y x) ∨ ∃ y x, f_X2_findFrom (56 + 4 * d) (11 + 15 * l) (nI F) μ = some (1, found μ F y x) ∧ FIT (σS σ) l g D F y x ∧ ∀ y2 x2, FIT (σS σ) l g D F y2 x2 → ¬ (y2 < y ∨ y2 = y ∧ x2 < x) := by
  have wd := (hw.2.1 d D hD).2
  have hg := (hw.1 l g hL).2
  have cg : Cg μ (11 + 15 * l) g := by have := hc.1 l hl; rw [hL] at this; exact this
  have cd : Cd μ (56 + 4 * d) D := by have := hc.2.1 d hd; rw [hD] at this; exact this
  have hN := hg.2.1
  have hlen := hg.2.2.2.1
  have p1 := wd.2.2.2.2.2.1
  have p2 := wd.2.2.2.2.2.2.1
  have p3 := wd.2.2.2.2.2.2.2.1
  have p4 := wd.2.2.2.2.2.2.2.2.1
  have hab : a0 ≤ b := by
    apply Classical.byContradiction; intro h; exact hgb.1 (hla.2 b (by omega))
  have hin : ∀ o, o < 10 → cnt D o ≠ 0 → a0 ≤ o ∧ o ≤ b := fun o ho h => by
    constructor
    · apply Classical.byContradiction; intro q; exact h (hla.2 o (by omega))
    · apply Classical.byContradiction; intro q; exact h (hgb.2 o (by omega) ho)
  have wr := wdt_rng hg (show F + a0 < 12 by omega)
  unfold f_X2_findFrom
  rw [e6, nI_add, widthOf_eq hg cg (by omega), bd_some, e6, cd.2.2.2.2.1, cg.2.2.1, cd.2.2.2.2.2.1, iz_nat (wdt g (F + a0)), iz_nat (dPw D), iz_nat (gLen g), iz_nat (dPh D), iz_sub, iz_sub]
  obtain ⟨x1, y1, e, hr, hx, hy⟩ := lim_L (d := d) (F := F) (K := fun w10 w11 μ12 => f_X2_findFrom_L100 (56 + 4 * d) (11 + 15 * l) (nI F) w10 w11 (fun μ20 => (some ((0 : Int32), μ20))) FU (0 : Int32) μ12) wd hg cg cd e7 hb (by omega) (b + 1 - a0) FU a0 ((wdt g (F + a0) : Int) - (dPw D : Nat)) ((gLen g : Int) - (dPh D : Nat)) (by omega) (show b + 1 - a0 < 8192 by omega) (by omega) (by omega) (by omega) (by omega)
  rw [e]
  have hx1 : ∀ z : Int, z ≤ x1 ↔ ∀ o, o < 10 → cnt D o ≠ 0 → z + dPw D ≤ wdt g (F + o) := fun z => (hx z).trans ⟨fun h o ho hq => h.2 o (hin o ho hq).1 (hin o ho hq).2 hq, fun h => ⟨by have := h a0 ha hla.1; omega, fun o h1 h2 h3 => h o (by omega) h3⟩⟩
  have hy1 : ∀ z : Int, z ≤ y1 ↔ ∀ o, o < 10 → cnt D o ≠ 0 → z + ((cnt D o * dPh D : Nat) : Int) ≤ gLen g := fun z => (hy z).trans ⟨fun h o ho hq => h.2 o (hin o ho hq).1 (hin o ho hq).2 hq, fun h => ⟨by
    have h1 := h a0 ha hla.1
    have h2 : dPh D ≤ cnt D a0 * dPh D := Nat.le_mul_of_pos_left _ (Nat.pos_of_ne_zero hla.1)
    omega, fun o h1 h2 h3 => h o (by omega) h3⟩⟩
  rcases row_L (K := fun μ20 => (some ((0 : Int32), μ20))) hw hc hl hL hd hD hla hgb ha hb e6 e7 hF hr hx1 hy1 61 FU 0 rfl (by decide) with ⟨e2, h4⟩ | ⟨y, x, e2, h4, h5, h6⟩
  · left
    rw [show nI 0 = (0 : Int32) from rfl] at e2
    exact ⟨e2, fun y x => h4 y x (Nat.zero_le _)⟩
  · right
    rw [show nI 0 = (0 : Int32) from rfl] at e2
    exact ⟨y, x, e2, h5, fun y2 x2 => h6 y2 x2 (Nat.zero_le _)⟩
theorem find_L {n : Nat} {σ : St} {μ : Mem} {l d a0 b : Nat} {g : LogD} {D : DoorD} (hw : WF n σ) (hc : RC σ μ) (hl : l < 3) (hL : σL σ l = some g) (hd : d < 8) (hD : σD σ d = some D) (hla : isLeast D a0) (hgb : isGreat D b) (ha : a0 < 10) (hb : b < 10) (e6 : μ.1 (56 + 4 * d) 6 = nI a0) (e7 : μ.1 (56 + 4 * d) 7 = nI b) : ∀ (m q k : Nat), k + m = 12 → m < q → (f_X2_find_L12 (56 + 4 * d) (11 + 15 * l) (fun μ8 => (some ((0 : Int32), μ8))) q (nI k) μ = some (0, μ) ∧ ∀ f y x, k ≤ f → ¬ FIT (σS σ) l g D f y x) ∨ ∃ f y x, f_X2_find_L12 (56 + 4 * d) (11 + 15 * l) (fun μ8 => (some ((0 : Int32), μ8))) q (nI k) μ = some (1, found μ f y x) ∧ k ≤ f ∧ FIT (σS σ) l g D f y x ∧ ∀ f2 y2 x2, k ≤ f2 → FIT (σS σ) l g D f2 y2 x2 → ¬ (f2 < f ∨ f2 = f ∧ (y2 < y ∨ y2 = y ∧ x2 < x)) := by
  have hg := (hw.1 l g hL).2
  have cg : Cg μ (11 + 15 * l) g := by have := hc.1 l hl; rw [hL] at this; exact this
  have hN := hg.2.1
  have out : ∀ k, gN g ≤ k + b → ∀ f y x, k ≤ f → ¬ FIT (σS σ) l g D f y x := fun k h f y x h2 h3 => by
    have := (h3 b hb hgb.1).1; omega
  intro m
  induction m with
  | zero =>
    intro q k hk hq
    obtain ⟨q', rfl⟩ : ∃ q', q = q' + 1 := ⟨q - 1, by omega⟩
    left
    refine ⟨?_, out k (by omega)⟩
    rw [f_X2_find_L12, cg.2.1, e7, nI_add, if_pos (nI_le (by omega) (by omega))]
  | succ m ih =>
    intro q k hk hq
    obtain ⟨q', rfl⟩ : ∃ q', q = q' + 1 := ⟨q - 1, by omega⟩
    by_cases h1 : gN g ≤ k + b
    · left
      refine ⟨?_, out k h1⟩
      rw [f_X2_find_L12, cg.2.1, e7, nI_add, if_pos (nI_le (by omega) (by omega))]
    · rw [f_X2_find_L12, cg.2.1, e7, nI_add, if_neg (nI_ge (by omega) (by omega))]
      rcases from_eq (F := k) hw hc hl hL hd hD hla hgb ha hb e6 e7 (by omega) with ⟨e, hno⟩ | ⟨y, x, e, h4, h5⟩
      · rw [e, bd_some, if_pos rfl, nI_s]
        rcases ih q' (k + 1) (by omega) (by omega) with ⟨e2, h4⟩ | ⟨f, y, x, e2, h4, h5, h6⟩
        · left
          refine ⟨e2, fun f y x h7 h8 => ?_⟩
          by_cases e3 : f = k
          · rw [e3] at h8; exact hno y x h8
          · exact h4 f y x (by omega) h8
        · right
          refine ⟨f, y, x, e2, by omega, h5, fun f2 y2 x2 h7 h8 => ?_⟩
          by_cases e3 : f2 = k
          · rw [e3] at h8; exact absurd h8 (hno y2 x2)
          · exact h6 f2 y2 x2 (by omega) h8
      · right
        rw [e, bd_some, if_neg (show ¬ (1 : Int32) = 0 by decide)]
        refine ⟨k, y, x, rfl, Nat.le_refl k, h4, fun f2 y2 x2 h7 h8 h9 => ?_⟩
        rcases h9 with h9 | ⟨h9, h10⟩
        · omega
        · rw [h9] at h8; exact h5 y2 x2 h8 h10
/-- a door fits there: its tones too -/
def FT (S : List Strip) (l : Nat) (g : LogD) (D : DoorD) (f y x : Nat) : Prop := (∀ a b, a < 10 → b < 10 → isLeast D a → isGreat D b → ¬ apart D g a b) ∧ FIT S l g D f y x
theorem least_eq {D : DoorD} {a b : Nat} (h1 : isLeast D a) (h2 : isLeast D b) : a = b := by
  rcases Nat.lt_trichotomy a b with h | h | h
  · exact absurd (h2.2 a h) h1.1
  · exact h
  · exact absurd (h1.2 b h) h2.1
theorem great_eq {D : DoorD} {a b : Nat} (ha : a < 10) (hb : b < 10) (h1 : isGreat D a) (h2 : isGreat D b) : a = b := by
  rcases Nat.lt_trichotomy a b with h | h | h
  · exact absurd (h1.2 b h hb) h2.1
  · exact h
  · exact absurd (h2.2 a h ha) h1.1
theorem findC {n : Nat} {σ : St} {μ : Mem} {l d : Nat} {g : LogD} {D : DoorD} (hw : WF n σ) (hc : RC σ μ) (hl : l < 3) (hL : σL σ l = some g) (hd : d < 8) (hD : σD σ d = some D) : ∃ r, isFirst (FT (σS σ) l g D) r ∧ f_X2_find (56 + 4 * d) (11 + 15 * l) μ = (match r with
    | none => some (0, μ)
    | some q => some (1, found μ q.1 q.2.1 q.2.2)) := by
  have cd : Cd μ (56 + 4 * d) D := by have := hc.2.1 d hd; rw [hD] at this; exact this
  obtain ⟨-, -, -, -, -, -, -, -, ⟨a, ha, hla, ea⟩, ⟨b, hb, hgb, eb⟩, -⟩ := cd
  have hdec : Decidable (apart D g a b) := Int.decLt _ _
  have hap := @apartC n σ μ l d a b g D hw hc hl hL hd hD ha hb hla hgb ea eb hdec
  unfold f_X2_find
  rw [hap, bd_some]
  by_cases hx : apart D g a b
  · refine ⟨none, fun f y x h => h.1 a b ha hb hla hgb hx, ?_⟩
    rw [b01_t hx, if_neg (show ¬ (1 : Int32) = 0 by decide)]
  · rw [b01_f hx, if_pos rfl]
    have hall : ∀ a2 b2, a2 < 10 → b2 < 10 → isLeast D a2 → isGreat D b2 → ¬ apart D g a2 b2 := fun a2 b2 h1 h2 h3 h4 => by
      rw [least_eq h3 hla, great_eq h2 hb h4 hgb]; exact hx
    rcases find_L hw hc hl hL hd hD hla hgb ha hb ea eb 12 FU 0 rfl (by decide) with ⟨e, h4⟩ | ⟨f, y, x, e, -, h5, h6⟩
    · rw [show nI 0 = (0 : Int32) from rfl] at e
      exact ⟨none, fun f y x h => h4 f y x (Nat.zero_le _) h.2, e⟩
    · rw [show nI 0 = (0 : Int32) from rfl] at e
      exact ⟨some (f, y, x), ⟨⟨hall, h5⟩, fun f2 y2 x2 h => h6 f2 y2 x2 (Nat.zero_le _) h.2⟩, e⟩
