/-! flaws over a box, by the numbers of both; the steps of hit and leaf -/
/-- does flaw f overlap the box, as Java's ints say it? -/
def ov (f : FlawD) (i x y w h : Int32) : Prop := nI (fF f) ≤ i ∧ i ≤ nI (fL f) ∧ (nI (fX f) + (i - nI (fF f)) * iz (fDx f) < x + w ∧ x < nI (fX f) + (i - nI (fF f)) * iz (fDx f) + nI (fW f) ∧ nI (fY f) + (i - nI (fF f)) * iz (fDy f) < y + h ∧ y < nI (fY f) + (i - nI (fF f)) * iz (fDy f) + nI (fH f))
def ovB (f : FlawD) (i x y w h : Int32) : Bool := decide (nI (fF f) ≤ i) && (decide (i ≤ nI (fL f)) && (decide (nI (fX f) + (i - nI (fF f)) * iz (fDx f) < x + w) && (decide (x < nI (fX f) + (i - nI (fF f)) * iz (fDx f) + nI (fW f)) && (decide (nI (fY f) + (i - nI (fF f)) * iz (fDy f) < y + h) && decide (y < nI (fY f) + (i - nI (fF f)) * iz (fDy f) + nI (fH f))))))
theorem ovB_iff {f : FlawD} {i x y w h : Int32} : ovB f i x y w h = true ↔ ov f i x y w h := by unfold ovB ov; simp
theorem overlaps_eq {μ : Mem} {a : Nat} {f : FlawD} (cf : Cf μ a f) (i x y w h : Int32) : f_X3_overlaps a i x y w h μ = some (b01 (ovB f i x y w h = true), μ) := by
  obtain ⟨h0, h1, h2, h3, h4, h5, h6, h7⟩ := cf
  unfold f_X3_overlaps f_X3_leftIn f_X3_topIn ovB
  rw [isFrom_eq, bd_some, h0, h1]
  simp only [bd_some, h2, h0, h6, h4, h3, h7, h5]
  by_cases c1 : nI (fF f) ≤ i ∧ i ≤ nI (fL f)
  · rw [b01_t c1, if_neg (by decide)]
    by_cases c2 : x + w ≤ nI (fX f) + (i - nI (fF f)) * iz (fDx f)
    · rw [if_pos c2, b01_f (by simp [Int32.not_lt.mpr c2])]
    · rw [if_neg c2]
      by_cases c3 : nI (fX f) + (i - nI (fF f)) * iz (fDx f) + nI (fW f) ≤ x
      · rw [if_pos c3, b01_f (by simp [Int32.not_lt.mpr c3])]
      · rw [if_neg c3]
        by_cases c4 : y + h ≤ nI (fY f) + (i - nI (fF f)) * iz (fDy f)
        · rw [if_pos c4, b01_f (by simp [Int32.not_lt.mpr c4])]
        · rw [if_neg c4]
          by_cases c5 : nI (fY f) + (i - nI (fF f)) * iz (fDy f) + nI (fH f) ≤ y
          · rw [if_pos c5, b01_f (by simp [Int32.not_lt.mpr c5])]
          · rw [if_neg c5, b01_t (by simp [c1.1, c1.2, Int32.not_le.mp c2, Int32.not_le.mp c3, Int32.not_le.mp c4, Int32.not_le.mp c5])]
  · rw [b01_f c1, if_pos rfl, b01_f (by
      intro q
      simp only [Bool.and_eq_true, decide_eq_true_eq] at q
      exact c1 ⟨q.1, q.2.1⟩)]
theorem isFlawed_eq {μ : Mem} {q : Nat} {f : FlawD} (mf : Mf μ q f) (hq : q < 30) (i x y w h : Int32) : f_X10_isFlawed (nI q) i x y w h μ = some (b01 (ovB f i x y w h = true), μ) := by
  obtain ⟨h0, h1, h2, h3, h4, h5, h6, h7⟩ := mf
  unfold f_X10_isFlawed f_X10_laps ovB
  simp only [rI_nI hq (show 30 < 2 ^ 31 by decide), bi_some, h0, h1, h2, h3, h4, h5, h6, h7]
  by_cases c0 : i < nI (fF f)
  · rw [if_pos c0, b01_f (by simp [Int32.not_le.mpr c0])]
  · rw [if_neg c0]
    by_cases c1 : i ≤ nI (fL f)
    · rw [if_pos c1]
      by_cases c2 : x + w ≤ nI (fX f) + (i - nI (fF f)) * iz (fDx f)
      · rw [if_pos c2, b01_f (by simp [Int32.not_lt.mpr c2])]; rfl
      · rw [if_neg c2]
        by_cases c3 : nI (fX f) + (i - nI (fF f)) * iz (fDx f) + nI (fW f) ≤ x
        · rw [if_pos c3, b01_f (by simp [Int32.not_lt.mpr c3])]; rfl
        · rw [if_neg c3]
          by_cases c4 : y + h ≤ nI (fY f) + (i - nI (fF f)) * iz (fDy f)
          · rw [if_pos c4, b01_f (by simp [Int32.not_lt.mpr c4])]; rfl
          · rw [if_neg c4]
            by_cases c5 : nI (fY f) + (i - nI (fF f)) * iz (fDy f) + nI (fH f) ≤ y
            · rw [if_pos c5, b01_f (by simp [Int32.not_lt.mpr c5])]; rfl
            · rw [if_neg c5, b01_t (by simp [Int32.not_lt.mp c0, c1, Int32.not_le.mp c2, Int32.not_le.mp c3, Int32.not_le.mp c4, Int32.not_le.mp c5])]; rfl
    · rw [if_neg c1, b01_f (by simp [c1])]
/-- the least flaw from number k on that overlaps a box -/
def fiL : List FlawD → Nat → Int32 → Int32 → Int32 → Int32 → Int32 → Option Nat
  | [], _, _, _, _, _, _ => none
  | f :: l, k, i, x, y, w, h => if ovB f i x y w h = true then some k else fiL l (k + 1) i x y w h
def fiV (o : Option Nat) : Int32 := match o with
  | none => -1
  | some k => nI k
theorem drop_c {α : Type} {L l : List α} {f : α} {k : Nat} (h : L.drop k = f :: l) : k < L.length ∧ L[k]? = some f ∧ L.drop (k + 1) = l := by
  have hk : k < L.length := by
    apply Classical.byContradiction
    intro q
    rw [List.drop_eq_nil_iff.mpr (by omega)] at h
    cases h
  refine ⟨hk, ?_, ?_⟩
  · have := congrArg (fun z => z[0]?) h
    simpa [List.getElem?_drop] using this
  · have := congrArg (fun z => z.drop 1) h
    simpa [List.drop_drop, Nat.add_comm] using this
theorem leastC {μ : Mem} {a : Nat} {g : LogD} (hw : WFg g) (cg : Cg μ a g) {i x y w h : Int32} : ∀ (l : List FlawD) (n k : Nat), (gF g).drop k = l → k ≤ 10 → l.length < n → f_X4_leastFlawIn_L3 a i x y w h (fun μ7 => some (-1, μ7)) n (nI k) μ = some (fiV (fiL l k i x y w h), μ) := by
  have h10 := WFg_fl hw
  intro l
  induction l with
  | nil =>
    intro n k hk hk10 hn
    obtain ⟨n', rfl⟩ : ∃ n', n = n' + 1 := ⟨n - 1, by simp at hn; omega⟩
    have hk2 : (gF g).length ≤ k := List.drop_eq_nil_iff.mp hk
    rw [f_X4_leastFlawIn_L3, cg.2.2.2.2.2.2.2.1, if_pos (nI_le hk2 (by omega))]; rfl
  | cons f l ih =>
    intro n k hk hk10 hn
    obtain ⟨n', rfl⟩ : ∃ n', n = n' + 1 := ⟨n - 1, by simp at hn; omega⟩
    obtain ⟨k1, k2, k3⟩ := drop_c hk
    rw [f_X4_leastFlawIn_L3, cg.2.2.2.2.2.2.2.1, if_neg (nI_ge k1 (by omega)), rR_nI (by omega) (by decide), bi_some, overlaps_eq (cg.2.2.2.2.2.2.2.2.1 k f k2), bd_some]
    unfold fiL
    by_cases ho : ovB f i x y w h = true
    · rw [b01_t ho, if_neg (by decide), if_pos ho]; rfl
    · rw [b01_f ho, if_pos rfl, if_neg ho, nI_s, ih n' (k + 1) k3 (by omega) (by simp at hn; omega)]
theorem leastM {μ : Mem} {d : Nat} {g : LogD} (hw : WFg g) (hd : d < 3) (mg : Mg μ d g) {i x y w h : Int32} : ∀ (l : List FlawD) (n k : Nat), (gF g).drop k = l → k ≤ 10 → l.length < n → f_X10_flawIn_L3 (nI d) i x y w h (fun μ6 => some (-1, μ6)) n (nI k) μ = some (fiV (fiL l k i x y w h), μ) := by
  have h10 := WFg_fl hw
  intro l
  induction l with
  | nil =>
    intro n k hk hk10 hn
    obtain ⟨n', rfl⟩ : ∃ n', n = n' + 1 := ⟨n - 1, by simp at hn; omega⟩
    have hk2 : (gF g).length ≤ k := List.drop_eq_nil_iff.mp hk
    rw [f_X10_flawIn_L3, rI_nI hd (by decide), bi_some, mg.2.2.2.2.2.2.1, if_pos (nI_le hk2 (by omega))]; rfl
  | cons f l ih =>
    intro n k hk hk10 hn
    obtain ⟨n', rfl⟩ : ∃ n', n = n' + 1 := ⟨n - 1, by simp at hn; omega⟩
    obtain ⟨k1, k2, k3⟩ := drop_c hk
    have e : (10 : Int32) * nI d + nI k = nI (10 * d + k) := by rw [show (10 : Int32) = nI 10 from rfl, pk_mul, nI_add]
    rw [f_X10_flawIn_L3, rI_nI hd (by decide), bi_some, mg.2.2.2.2.2.2.1, if_neg (nI_ge k1 (by omega)), e, isFlawed_eq (mg.2.2.2.2.2.2.2 k f k2) (by omega), bd_some]
    unfold fiL
    by_cases ho : ovB f i x y w h = true
    · rw [b01_t ho, if_neg (by decide), if_pos ho]; rfl
    · rw [b01_f ho, if_pos rfl, if_neg ho, nI_s, ih n' (k + 1) k3 (by omega) (by simp at hn; omega)]
theorem leastFlawIn_eq {μ : Mem} {a : Nat} {g : LogD} (hw : WFg g) (cg : Cg μ a g) (i x y w h : Int32) : f_X4_leastFlawIn a i x y w h μ = some (fiV (fiL (gF g) 0 i x y w h), μ) := by
  have h10 := WFg_fl hw
  exact leastC hw cg (gF g) FU 0 rfl (by omega) (show (gF g).length < 8192 by omega)
theorem flawIn_eq {μ : Mem} {d : Nat} {g : LogD} (hw : WFg g) (hd : d < 3) (mg : Mg μ d g) (i x y w h : Int32) : f_X10_flawIn (nI d) i x y w h μ = some (fiV (fiL (gF g) 0 i x y w h), μ) := by
  have h10 := WFg_fl hw
  exact leastM hw hd mg (gF g) FU 0 rfl (by omega) (show (gF g).length < 8192 by omega)
/-- the opening of a call that names a log and a leaf -/
theorem step_hit {n : Nat} {μc μm : Mem} (S : Sim n μc μm) (v1 v2 v3 v4 v5 v6 : Int32) : Both n (f_X9_hit v1 v2 v3 v4 v5 v6 μc) (f_X10_hit v1 v2 v3 v4 v5 v6 μm) := by
  obtain ⟨σ, hw, hc, hm⟩ := S
  have S : Sim n μc μm := ⟨σ, hw, hc, hm⟩
  unfold f_X9_hit f_X10_hit
  rcases names v1 (σL σ) 3 with ⟨l, g, hl, rfl, hL⟩ | hn
  · have hg := (hw.1 l g hL).2
    have cg : Cg μc (11 + 15 * l) g := by have := hc.1 l hl; rw [hL] at this; exact this
    have mg : Mg μm l g := by have := hm.1 l hl; rw [hL] at this; exact this
    have hN : gN g ≤ 12 := hg.2.1
    rw [logAt_some hc.1 hl hL, bd_some, oc_some, hasLeaf_eq cg.2.1 (by omega), bd_some, toI64]
    by_cases hi : ∃ i, i < gN g ∧ v2 = nI i
    · rw [b01_t ((leafIx (by omega)).mpr hi)]
      obtain ⟨i, hi, rfl⟩ := hi
      rw [isLeaf_in hm.1 hg hl hL hi, bd_some, if_neg (by decide), if_neg (by decide), isFrom_eq, isIn_eq, bd_some, bd_some]
      by_cases h5 : (1 : Int32) ≤ v5 ∧ v5 ≤ 100
      · rw [b01_t h5, if_neg (by decide), if_neg (by decide), isFrom_eq, isIn_eq, bd_some, bd_some]
        by_cases h6 : (1 : Int32) ≤ v6 ∧ v6 ≤ 100
        · obtain ⟨p1, p2⟩ := rng_iz (a := 1) (b := 100) h5.1 h5.2 (by omega) (by omega) (by omega) (by omega)
          obtain ⟨p3, p4⟩ := rng_iz (a := 1) (b := 100) h6.1 h6.2 (by omega) (by omega) (by omega) (by omega)
          have r3 := i32_rng v3
          have r4 := i32_rng v4
          rw [b01_t h6, if_neg (by decide), if_neg (by decide), holds_eq hg cg (by omega) p1 (by omega) p3 (by omega), bd_some, within_eq hg mg hl (by omega) (by rw [toI64]; omega) (by rw [toI64]; omega) (by rw [toI64]; omega) (by rw [toI64]; omega), bd_some, toI64, toI64]
          by_cases hh : (0 ≤ v3.toInt ∧ v3.toInt + v5.toInt ≤ wdt g i) ∧ (0 ≤ v4.toInt ∧ v4.toInt + v6.toInt ≤ gLen g)
          · rw [b01_t hh, if_neg (by decide), if_neg (by decide), leastFlawIn_eq hg cg, flawIn_eq hg hl mg, bd_some, bd_some]
            exact Both.keep S _ rfl rfl
          · rw [b01_f hh, if_pos rfl, if_pos rfl]
            exact Both.keep S _ rfl rfl
        · rw [b01_f h6, if_pos rfl, if_pos rfl]
          exact Both.keep S _ rfl rfl
      · rw [b01_f h5, if_pos rfl, if_pos rfl]
        exact Both.keep S _ rfl rfl
    · rw [b01_f (fun q => hi ((leafIx (by omega)).mp q)), if_pos rfl, isLeaf_out hm.1 hg hl hL hi, bd_some, if_pos rfl]
      exact Both.keep S _ rfl rfl
  · rw [logAt_none hc.1 hn, isLeaf_none hm.1 hn, bd_some, bd_some]
    exact Both.keep S (-2) rfl rfl
