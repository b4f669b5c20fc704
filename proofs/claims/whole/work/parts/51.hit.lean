/-! flaws over a box, by the numbers of both; the steps of hit and leaf -/
/-- does flaw f overlap the box, as Java's ints say it? -/
def ov (f : FlawD) (i x y w h : Int32) : Prop := nI (fF f) ≤ i ∧ i ≤ nI (fL f) ∧ (nI (fX f) + (i - nI (fF f)) * iz (fDx f) < x + w ∧ x < nI (fX f) + (i - nI (fF f)) * iz (fDx f) + nI (fW f) ∧ nI (fY f) + (i - nI (fF f)) * iz (fDy f) < y + h ∧ y < nI (fY f) + (i - nI (fF f)) * iz (fDy f) + nI (fH f))
def ovB (f : FlawD) (i x y w h : Int32) : Bool := decide (nI (fF f) ≤ i) && (decide (i ≤ nI (fL f)) && (decide (nI (fX f) + (i - nI (fF f)) * iz (fDx f) < x + w) && (decide (x < nI (fX f) + (i - nI (fF f)) * iz (fDx f) + nI (fW f)) && (decide (nI (fY f) + (i - nI (fF f)) * iz (fDy f) < y + h) && decide (y < nI (fY f) + (i - nI (fF f)) * iz (fDy f) + nI (fH f))))))
theorem ovB_iff {f : FlawD} {i x y w h : Int32} : ovB f i x y w h = true ↔ ov f i x y w h := by unfold ovB ov; simp
theorem overlaps_eq {μ : Mem} {a : Nat} {f : FlawD} (cf : Cf μ a f) (i x y w h : Int32) : f_X3_overlaps a i x y w h μ = some (b01 (ovB f i x y w h = true), μ) := by
  obtain ⟨h0, h1, h2, h3, h4, h5, h6, h7⟩ := cf
  unfold f_X3_overlaps f_X3_leftIn f_X3_topIn ovB
  rw [isFrom_eq, bd_some, h0, h1]
  simp only [bd_some, h2, h0, h6, h4, h3, h7, h5]
  by_cases c1 : nI (fF f) ≤ i ∧ i ≤ nI (fL f)
  · rw [b01_t c1, if_neg (by decide)]
    by_cases c2 : x + w ≤ nI (fX f) + (i - nI (fF f)) * iz (fDx f)
    · rw [if_pos c2, b01_f (by simp [Int32.not_lt.mpr c2])]
    · rw [if_neg c2]
      by_cases c3 : nI (fX f) + (i - nI (fF f)) * iz (fDx f) + nI (fW f) ≤ x
      · rw [if_pos c3, b01_f (by simp [Int32.not_lt.mpr c3])]
      · rw [if_neg c3]
        by_cases c4 : y + h ≤ nI (fY f) + (i - nI (fF f)) * iz (fDy f)
        · rw [if_pos c4, b01_f (by simp [Int32.not_lt.mpr c4])]
        · rw [if_neg c4]
          by_cases c5 : nI (fY f) + (i - nI (fF f)) * iz (fDy f) + nI (fH f) ≤ y
          · rw [if_pos c5, b01_f (by simp [Int32.not_lt.mpr c5])]
          · rw [if_neg c5, b01_t (by simp [c1.1, c1.2, Int32.not_le.mp c2, Int32.not_le.mp c3, Int32.not_le.mp c4, Int32.not_le.mp c5])]
  · rw [b01_f c1, if_pos rfl, b01_f (by
      intro q
      simp only [Bool.and_eq_true, decide_eq_true_eq] at q
      exact c1 ⟨q.1, q.2.1⟩)]
theorem isFlawed_eq {μ : Mem} {q : Nat} {f : FlawD} (mf : Mf μ q f) (hq : q < 30) (i x y w h : Int32) : f_X10_isFlawed (nI q) i x y w h μ = some (b01 (ovB f i x y w h = true), μ) := by
  obtain ⟨h0, h1, h2, h3, h4, h5, h6, h7⟩ := mf
  unfold f_X10_isFlawed f_X10_laps ovB
  simp only [rI_nI hq (show 30 < 2 ^ 31 by decide), bi_some, h0, h1, h2, h3, h4, h5, h6, h7]
  by_cases c0 : i < nI (fF f)
  · rw [if_pos c0, b01_f (by simp [Int32.not_le.mpr c0])]
  · rw [if_neg c0]
    by_cases c1 : i ≤ nI (fL f)
    · rw [if_pos c1]
      by_cases c2 : x + w ≤ nI (fX f) + (i - nI (fF f)) * iz (fDx f)
      · rw [if_pos c2, b01_f (by simp [Int32.not_lt.mpr c2])]; rfl
      · rw [if_neg c2]
        by_cases c3 : nI (fX f) + (i - nI (fF f)) * iz (fDx f) + nI (fW f) ≤ x
        · rw [if_pos c3, b01_f (by simp [Int32.not_lt.mpr c3])]; rfl
        · rw [if_neg c3]
          by_cases c4 : y + h ≤ nI (fY f) + (i - nI (fF f)) * iz (fDy f)
          · rw [if_pos c4, b01_f (by simp [Int32.not_lt.mpr c4])]; rfl
          · rw [if_neg c4]
            by_cases c5 : nI (fY f) + (i - nI (fF f)) * iz (fDy f) + nI (fH f) ≤ y
            · rw [if_pos c5, b01_f (by simp [Int32.not_lt.mpr c5])]; rfl
            · rw [if_neg c5, b01_t (by simp [Int32.not_lt.mp c0, c1, Int32.not_le.mp c2, Int32.not_le.mp c3, Int32.not_le.mp c4, Int32.not_le.mp c5])]; rfl
    · rw [if_neg c1, b01_f (by simp [c1])]
/-- the least flaw from number k on that overlaps a box -/
def fiL : List FlawD → Nat → Int32 → Int32 → Int32 → Int32 → Int32 → Option Nat
  | [], _, _, _, _, _, _ => none
  | f :: l, k, i, x, y, w, h => if ovB f i x y w h = true then some k else fiL l (k + 1) i x y w h
def fiV (o : Option Nat) : Int32 := match o with
  | none => -1
  | some k => nI k
theorem leastC {μ : Mem} {a : Nat} {g : LogD} (hw : WFg g) (cg : Cg μ a g) {i x y w h : Int32} : ∀ (l : List FlawD) (n k : Nat), (gF g).drop k = l → l.length < n → f_X4_leastFlawIn_L3 a i x y w h (fun μ7 => some (-1, μ7)) n (nI k) μ = some (fiV (fiL l k i x y w h), μ) := by
  have h10 := WFg_fl hw
  intro l
  induction l with
  | nil =>
    intro n k hk hn
    obtain ⟨n', rfl⟩ : ∃ n', n = n' + 1 := ⟨n - 1, by simp at hn; omega⟩
    have hk2 : (gF g).length ≤ k := List.drop_eq_nil_iff.mp hk
    by_cases hkb : k < 2 ^ 31
    · rw [f_X4_leastFlawIn_L3, cg.2.2.2.2.2.2.2.1, if_pos (nI_le hk2 hkb)]; rfl
    · exfalso
      sorry
  | cons f l ih =>
    intro n k hk hn
    sorry
