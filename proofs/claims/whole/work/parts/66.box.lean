/-! a box against flaws and strips: both sides say the same -/
def stB (l i x y w h : Nat) (s : Strip) : Bool := decide (tL s = l ∧ tF s = i ∧ tX s < x + w ∧ x < tX s + tW s ∧ tY s < y + h ∧ y < tY s + tH s)
theorem cutM_L {n : Nat} {σ : St} {μ : Mem} {l i x y w h : Nat} (hw : WF n σ) (hn : n < 600) (hm : MS μ (σS σ)) (hl : l < 3) (hi : i < 12) (hx : x ≤ 1000) (hy : y ≤ 1000) (hww : w ≤ 1000) (hh : h ≤ 1000) : ∀ (S : List Strip) (m k : Nat), (σS σ).drop k = S → k ≤ 6000 → S.length < m → f_X10_isCut_L3 (nI l) (nI i) (nI x) (nI y) (nI w) (nI h) (fun μ13 => some ((0 : Int32), μ13)) m (nI k) μ = some (b01 (S.any (stB l i x y w h) = true), μ) := by
  have hlen := hw.2.2.2.2.1
  intro S
  induction S with
  | nil =>
    intro m k hk hk6 hm2
    obtain ⟨m', rfl⟩ : ∃ m', m = m' + 1 := ⟨m - 1, by simp at hm2; omega⟩
    have hk2 : (σS σ).length ≤ k := List.drop_eq_nil_iff.mp hk
    rw [f_X10_isCut_L3, hm.1, if_pos (nI_le hk2 (by omega))]; rfl
  | cons s S ih =>
    intro m k hk hk6 hm2
    obtain ⟨m', rfl⟩ : ∃ m', m = m' + 1 := ⟨m - 1, by simp at hm2; omega⟩
    obtain ⟨k1, k2, k3⟩ := drop_c hk
    obtain ⟨s0, s1, s2, s3, s4, s5, s6, s7⟩ := hm.2 k s k2
    have wfs := hw.2.2.1 s (List.mem_of_getElem? k2)
    have hkb : k < 6000 ∨ 6000 ≤ k := by omega
    have hb : tF s < 12 ∧ tX s + tW s ≤ 62 ∧ tY s + tH s ≤ 60 := by
      obtain ⟨-, ⟨g, hg, hf, h4, h5⟩, -⟩ := wfs
      have wg := (hw.1 _ g hg).2
      have h6 := wg.2.1
      have h7 := wdt_rng wg (show tF s < 12 by omega)
      have h8 := wg.2.2.2.1
      omega
    have ht := wfs.1
    have ih' := ih m' (k + 1) k3 (by omega) (by simp at hm2; omega)
    rw [List.any_cons]
    have out : stB l i x y w h s = false → some (b01 (S.any (stB l i x y w h) = true), μ) = some (b01 ((stB l i x y w h s || S.any (stB l i x y w h)) = true), μ) := fun q => by rw [q, Bool.false_or]
    rw [f_X10_isCut_L3, hm.1, if_neg (nI_ge k1 (by omega)), rI_nI (by omega) (by decide), bi_some, s0, nI_s]
    by_cases h1 : tL s = l
    · rw [if_pos (by rw [h1]), rI_nI (by omega) (by decide), bi_some, s1]
      by_cases h2 : tF s = i
      · rw [if_pos (by rw [h2]), rI_nI (by omega) (by decide), bi_some, rI_nI (by omega) (by decide), bi_some, rI_nI (by omega) (by decide), bi_some, rI_nI (by omega) (by decide), bi_some, s2, s3, s4, s5]
        unfold f_X10_laps
        rw [nI_add, nI_add, nI_add, nI_add]
        by_cases q1 : x + w ≤ tX s
        · rw [if_pos (nI_le q1 (by omega)), bd_some, if_pos rfl, ih', out (decide_eq_false (by omega))]
        · rw [if_neg (nI_ge (by omega) (by omega))]
          by_cases q2 : tX s + tW s ≤ x
          · rw [if_pos (nI_le q2 (by omega)), bd_some, if_pos rfl, ih', out (decide_eq_false (by omega))]
          · rw [if_neg (nI_ge (by omega) (by omega))]
            by_cases q3 : y + h ≤ tY s
            · rw [if_pos (nI_le q3 (by omega)), bd_some, if_pos rfl, ih', out (decide_eq_false (by omega))]
            · rw [if_neg (nI_ge (by omega) (by omega))]
              by_cases q4 : tY s + tH s ≤ y
              · rw [if_pos (nI_le q4 (by omega)), bd_some, if_pos rfl, ih', out (decide_eq_false (by omega))]
              · rw [if_neg (nI_ge (by omega) (by omega)), bd_some, if_neg (by decide)]
                have hs : stB l i x y w h s = true := decide_eq_true ⟨h1, h2, by omega, by omega, by omega, by omega⟩
                rw [hs, Bool.true_or, b01_t rfl]
      · rw [if_neg (fun q => h2 (nI_inj (by omega) (by omega) q)), ih', out (decide_eq_false (fun q => h2 q.2.1))]
    · rw [if_neg (fun q => h1 (nI_inj (by omega) (by omega) q)), ih', out (decide_eq_false (fun q => h1 q.1))]
theorem cutM {n : Nat} {σ : St} {μ : Mem} {l i x y w h : Nat} (hw : WF n σ) (hn : n < 600) (hm : MS μ (σS σ)) (hl : l < 3) (hi : i < 12) (hx : x ≤ 1000) (hy : y ≤ 1000) (hww : w ≤ 1000) (hh : h ≤ 1000) : f_X10_isCut (nI l) (nI i) (nI x) (nI y) (nI w) (nI h) μ = some (b01 ((σS σ).any (stB l i x y w h) = true), μ) := by
  have hlen := hw.2.2.2.2.1
  exact cutM_L hw hn hm hl hi hx hy hww hh (σS σ) FU 0 rfl (by omega) (show (σS σ).length < 8192 by omega)
/-- the class's bits of cuts say what the strips say -/
theorem cut_same {σ : St} {μ : Mem} {l i x y w h : Nat} {g : LogD} (hc : CS μ (σL σ) (σS σ)) (hl : l < 3) (hL : σL σ l = some g) (hi : i < 12) (hx : x + w ≤ 62) (hy : y + h ≤ 60) (hw1 : 1 ≤ w) (hh1 : 1 ≤ h) (hne : ∀ s ∈ σS σ, 1 ≤ tW s ∧ 1 ≤ tH s) : boxB μ (11 + 15 * l + 4) i x y w h = true ↔ (σS σ).any (stB l i x y w h) = true := by
  rw [boxB_iff (by omega), List.any_eq_true]
  have hb := (hc l g hl hL).2
  constructor
  · rintro ⟨y2, x2, h1, h2, h3, h4, h5⟩
    obtain ⟨s, hs, hcv⟩ := (hb i y2 x2 hi (by omega) (by omega)).mp h5
    obtain ⟨a1, a2, a3, a4, a5, a6⟩ := hcv
    exact ⟨s, hs, decide_eq_true ⟨a1, a2, by omega, by omega, by omega, by omega⟩⟩
  · rintro ⟨s, hs, hst⟩
    obtain ⟨a1, a2, a3, a4, a5, a6⟩ := of_decide_eq_true hst
    have hn := hne s hs
    refine ⟨max y (tY s), max x (tX s), by omega, by omega, by omega, by omega, ?_⟩
    exact (hb i _ _ hi (by omega) (by omega)).mpr ⟨s, hs, a1, a2, by omega, by omega, by omega, by omega⟩
theorem fiL_iff {i x y w h : Int32} : ∀ (l : List FlawD) (k : Nat), fiL l k i x y w h ≠ none ↔ ∃ f ∈ l, ovB f i x y w h = true := by
  intro l
  induction l with
  | nil => intro k; simp [fiL]
  | cons f l ih =>
    intro k
    unfold fiL
    by_cases ho : ovB f i x y w h = true
    · rw [if_pos ho]
      exact ⟨fun _ => ⟨f, List.mem_cons_self, ho⟩, fun _ => by simp⟩
    · rw [if_neg ho, ih (k + 1)]
      constructor
      · rintro ⟨f2, h1, h2⟩; exact ⟨f2, List.mem_cons_of_mem _ h1, h2⟩
      · rintro ⟨f2, h1, h2⟩
        rcases List.mem_cons.mp h1 with rfl | h1
        · exact absurd h2 ho
        · exact ⟨f2, h1, h2⟩
/-- the class's bits of flaws say what the flaws say -/
theorem flaw_same {μ : Mem} {a i x y w h : Nat} {g : LogD} (hg : WFg g) (cg : Cg μ a g) (hi : i < gN g) (hx : x + w ≤ wdt g i) (hy : y + h ≤ gLen g) (hw1 : 1 ≤ w) (hh1 : 1 ≤ h) : boxB μ (a + 3) i x y w h = true ↔ fiL (gF g) 0 (nI i) (nI x) (nI y) (nI w) (nI h) ≠ none := by
  have hN := hg.2.1
  have hLen := hg.2.2.2.1
  have hwr := wdt_rng hg (show i < 12 by omega)
  rw [boxB_iff (by omega), fiL_iff]
  have hb := cg.2.2.2.2.2.2.2.2.2
  constructor
  · rintro ⟨y2, x2, h1, h2, h3, h4, h5⟩
    obtain ⟨f, hf, hcv⟩ := (hb i y2 x2 hi (by omega) (by omega)).mp h5
    exact ⟨f, hf, (ov_cov (hg.2.2.2.2.2.2.2.2.2.2.2.2 f hf) hN (by omega) (by omega) (by omega) hw1 (by omega) hh1 (by omega)).mpr ⟨y2, x2, h1, h2, h3, h4, hcv⟩⟩
  · rintro ⟨f, hf, ho⟩
    obtain ⟨y2, x2, h1, h2, h3, h4, hcv⟩ := (ov_cov (hg.2.2.2.2.2.2.2.2.2.2.2.2 f hf) hN (by omega) (by omega) (by omega) hw1 (by omega) hh1 (by omega)).mp ho
    exact ⟨y2, x2, h1, h2, h3, h4, (hb i y2 x2 hi (by omega) (by omega)).mpr ⟨f, hf, hcv⟩⟩
