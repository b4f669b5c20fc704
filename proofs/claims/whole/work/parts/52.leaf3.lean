/-! the step of leaf -/
def fcL : List FlawD → Int32 → Int32 → Int32 → Int32 → Int32
  | [], acc, _, _, _ => acc
  | f :: l, acc, i, w, h => fcL l (acc + b01 (ovB f i 0 0 w h = true)) i w h
theorem countC {μ : Mem} {a i : Nat} {g : LogD} (hw : WFg g) (cg : Cg μ a g) (hi : i < 12) : ∀ (l : List FlawD) (n k : Nat) (acc : Int32), (gF g).drop k = l → k ≤ 10 → l.length < n → f_X4_countFlawsIn_L4 a (nI i) (fun w9 μ10 => some (w9, μ10)) n acc (nI k) μ = some (fcL l acc (nI i) (nI (wdt g i)) (nI (gLen g)), μ) := by
  have h10 := WFg_fl hw
  intro l
  induction l with
  | nil =>
    intro n k acc hk hk10 hn
    obtain ⟨n', rfl⟩ : ∃ n', n = n' + 1 := ⟨n - 1, by simp at hn; omega⟩
    have hk2 : (gF g).length ≤ k := List.drop_eq_nil_iff.mp hk
    rw [f_X4_countFlawsIn_L4, cg.2.2.2.2.2.2.2.1, if_pos (nI_le hk2 (by omega))]; rfl
  | cons f l ih =>
    intro n k acc hk hk10 hn
    obtain ⟨n', rfl⟩ : ∃ n', n = n' + 1 := ⟨n - 1, by simp at hn; omega⟩
    obtain ⟨k1, k2, k3⟩ := drop_c hk
    rw [f_X4_countFlawsIn_L4, cg.2.2.2.2.2.2.2.1, if_neg (nI_ge k1 (by omega)), rR_nI (by omega) (by decide), bi_some, widthOf_eq hw cg hi, bd_some, cg.2.2.1, overlaps_eq (cg.2.2.2.2.2.2.2.2.1 k f k2), bd_some]
    show _ = some (fcL l (acc + b01 (ovB f (nI i) 0 0 (nI (wdt g i)) (nI (gLen g)) = true)) (nI i) (nI (wdt g i)) (nI (gLen g)), μ)
    by_cases ho : ovB f (nI i) 0 0 (nI (wdt g i)) (nI (gLen g)) = true
    · rw [b01_t ho, if_neg (by decide), nI_s, ih n' (k + 1) _ k3 (by omega) (by simp at hn; omega)]
    · rw [b01_f ho, if_pos rfl, nI_s, ih n' (k + 1) _ k3 (by omega) (by simp at hn; omega)]
theorem countM {μ : Mem} {d i : Nat} {g : LogD} (hw : WFg g) (hd : d < 3) (mg : Mg μ d g) (hi : i < 12) : ∀ (l : List FlawD) (n k : Nat) (acc : Int32), (gF g).drop k = l → k ≤ 10 → l.length < n → f_X10_leaf_L73 (nI d) (nI i) (fun w19 μ20 => some (w19, μ20)) n acc (nI k) μ = some (fcL l acc (nI i) (nI (wdt g i)) (nI (gLen g)), μ) := by
  have h10 := WFg_fl hw
  intro l
  induction l with
  | nil =>
    intro n k acc hk hk10 hn
    obtain ⟨n', rfl⟩ : ∃ n', n = n' + 1 := ⟨n - 1, by simp at hn; omega⟩
    have hk2 : (gF g).length ≤ k := List.drop_eq_nil_iff.mp hk
    rw [f_X10_leaf_L73, rI_nI hd (by decide), bi_some, mg.2.2.2.2.2.2.1, if_pos (nI_le hk2 (by omega))]; rfl
  | cons f l ih =>
    intro n k acc hk hk10 hn
    obtain ⟨n', rfl⟩ : ∃ n', n = n' + 1 := ⟨n - 1, by simp at hn; omega⟩
    obtain ⟨k1, k2, k3⟩ := drop_c hk
    have e : (10 : Int32) * nI d + nI k = nI (10 * d + k) := by rw [show (10 : Int32) = nI 10 from rfl, pk_mul, nI_add]
    rw [f_X10_leaf_L73, rI_nI hd (by decide), bi_some, mg.2.2.2.2.2.2.1, if_neg (nI_ge k1 (by omega)), widthM_eq hw mg hd hi, bd_some, rI_nI hd (by decide), bi_some, mg.2.1, e, isFlawed_eq (mg.2.2.2.2.2.2.2 k f k2) (by omega), bd_some]
    show _ = some (fcL l (acc + b01 (ovB f (nI i) 0 0 (nI (wdt g i)) (nI (gLen g)) = true)) (nI i) (nI (wdt g i)) (nI (gLen g)), μ)
    by_cases ho : ovB f (nI i) 0 0 (nI (wdt g i)) (nI (gLen g)) = true
    · rw [b01_t ho, if_neg (by decide), nI_s, ih n' (k + 1) _ k3 (by omega) (by simp at hn; omega)]
    · rw [b01_f ho, if_pos rfl, nI_s, ih n' (k + 1) _ k3 (by omega) (by simp at hn; omega), Int32.add_zero]
theorem sumM_nil {l i : Nat} : sumM [] l i = 0 := rfl
theorem sumM_cons {s : Strip} {S : List Strip} {l i : Nat} : sumM (s :: S) l i = (if tL s = l ∧ tF s = i then tM s else 0) + sumM S l i := by
  unfold sumM
  by_cases h : tL s = l ∧ tF s = i
  · rw [if_pos h, List.filter_cons_of_pos (by simp [h.1, h.2]), List.map_cons, List.sum_cons]
  · rw [if_neg h, List.filter_cons_of_neg (by simpa using h), Nat.zero_add]
theorem sumL {n : Nat} {σ : St} {μ : Mem} {l i : Nat} (hw : WF n σ) (hn : n < 512) (hm : MS μ (σS σ)) (hl : l < 3) (hi : i < 12) : ∀ (S : List Strip) (m k acc : Nat), (σS σ).drop k = S → k ≤ 6000 → S.length < m → f_X10_leaf_L128 (nI l) (nI i) (fun w28 μ29 => some (w28, μ29)) m (nI acc) (nI k) μ = some (nI (acc + sumM S l i), μ) := by
  have hlen := hw.2.2.2.2.1
  intro S
  induction S with
  | nil =>
    intro m k acc hk hk6 hm2
    obtain ⟨m', rfl⟩ : ∃ m', m = m' + 1 := ⟨m - 1, by simp at hm2; omega⟩
    have hk2 : (σS σ).length ≤ k := List.drop_eq_nil_iff.mp hk
    rw [f_X10_leaf_L128, hm.1, if_pos (nI_le hk2 (by omega))]; rfl
  | cons s S ih =>
    intro m k acc hk hk6 hm2
    obtain ⟨m', rfl⟩ : ∃ m', m = m' + 1 := ⟨m - 1, by simp at hm2; omega⟩
    obtain ⟨k1, k2, k3⟩ := drop_c hk
    obtain ⟨s0, s1, s2, s3, s4, s5, s6, s7⟩ := hm.2 k s k2
    have wfs := hw.2.2.1 s (List.mem_of_getElem? k2)
    have hkb : k < 6000 := by omega
    have hb : tF s < 12 := by
      obtain ⟨-, ⟨g, hg, hf, -⟩, -⟩ := wfs
      have := (hw.1 _ g hg).2.2.1
      omega
    rw [f_X10_leaf_L128, hm.1, if_neg (nI_ge k1 (by omega)), rI_nI hkb (by decide), bi_some, s0, rI_nI hkb (by decide), bi_some, s1, rI_nI hkb (by decide), bi_some, s6, sumM_cons]
    by_cases h1 : tL s = l
    · rw [if_pos (by rw [h1])]
      by_cases h2 : tF s = i
      · rw [if_pos (by rw [h2]), if_pos ⟨h1, h2⟩, nI_add, nI_s, ih m' (k + 1) _ k3 (by omega) (by simp at hm2; omega), Nat.add_assoc]
      · rw [if_neg (fun q => h2 (nI_inj (by omega) (by omega) q)), if_neg (fun q => h2 q.2), nI_s, ih m' (k + 1) _ k3 (by omega) (by simp at hm2; omega), Nat.zero_add]
    · rw [if_neg (fun q => h1 (nI_inj (by have := wfs.1; omega) (by omega) q)), if_neg (fun q => h1 q.1), nI_s, ih m' (k + 1) _ k3 (by omega) (by simp at hm2; omega), Nat.zero_add]
theorem step_leaf {n : Nat} {μc μm : Mem} (S : Sim n μc μm) (hn5 : n < 512) (v1 v2 v3 : Int32) : Both n (f_X9_leaf v1 v2 v3 μc) (f_X10_leaf v1 v2 v3 μm) := by
  obtain ⟨σ, hw, hc, hm⟩ := S
  have S : Sim n μc μm := ⟨σ, hw, hc, hm⟩
  unfold f_X9_leaf f_X10_leaf
  rcases names v1 (σL σ) 3 with ⟨l, g, hl, rfl, hL⟩ | hn
  · have hg := (hw.1 l g hL).2
    have cg : Cg μc (11 + 15 * l) g := by have := hc.1 l hl; rw [hL] at this; exact this
    have mg : Mg μm l g := by have := hm.1 l hl; rw [hL] at this; exact this
    have hN : gN g ≤ 12 := hg.2.1
    have h10 := WFg_fl hg
    have hlen := hw.2.2.2.2.1
    rw [logAt_some hc.1 hl hL, bd_some, oc_some, hasLeaf_eq cg.2.1 (by omega), bd_some, toI64]
    by_cases hi : ∃ i, i < gN g ∧ v2 = nI i
    · rw [b01_t ((leafIx (by omega)).mpr hi)]
      obtain ⟨i, hi, rfl⟩ := hi
      rw [isLeaf_in hm.1 hg hl hL hi, bd_some, if_neg (show ¬ (1 : Int32) = 0 by decide), if_neg (show ¬ (1 : Int32) = 0 by decide)]
      by_cases h0 : v3 = 0
      · rw [if_pos h0, if_pos h0, widthOf_eq hg cg (by omega), widthM_eq hg mg hl (by omega), bd_some, bd_some]
        exact Both.keep S _ rfl rfl
      rw [if_neg h0, if_neg h0]
      by_cases h1 : v3 = 1
      · rw [if_pos h1, if_pos h1]
        refine Both.keep S (nI (gT g) + nI i * iz (gD g)) ?_ ?_
        · unfold f_X4_toneOf; rw [bd_some, cg.2.2.2.2.2.1, cg.2.2.2.2.2.2.1]
        · unfold f_X10_toneOf; rw [rI_nI hl (by decide), bi_some, rI_nI hl (by decide), bi_some, bd_some, mg.2.2.2.2.1, mg.2.2.2.2.2.1]
      rw [if_neg h1, if_neg h1]
      by_cases h2 : v3 = 2
      · rw [if_pos h2, if_pos h2]
        unfold f_X4_countFlawsIn
        rw [show (0 : Int32) = nI 0 from rfl, countC hg cg (by omega) (gF g) FU 0 _ rfl (by omega) (show (gF g).length < 8192 by omega), bd_some, countM hg hl mg (by omega) (gF g) FU 0 _ rfl (by omega) (show (gF g).length < 8192 by omega)]
        exact Both.keep S _ rfl rfl
      rw [if_neg h2, if_neg h2]
      by_cases h3 : v3 = 3
      · rw [if_pos h3, if_pos h3, rI_nI (show i < 12 by omega) (by decide), bi_some, (hc.2.2.1 l g hl hL).1 i (by omega), show (0 : Int32) = nI 0 from rfl, sumL hw hn5 hm.2.2.1 hl (by omega) (σS σ) FU 0 0 rfl (by omega) (show (σS σ).length < 8192 by omega), Nat.zero_add]
        exact Both.keep S _ rfl rfl
      rw [if_neg h3, if_neg h3]
      by_cases h4 : v3 = 4
      · rw [if_pos h4, if_pos h4]
        by_cases hz : nI i = 0
        · rw [if_pos hz, if_pos hz, rI_nI hl (by decide), bi_some, cg.2.1, mg.1]
          exact Both.keep S _ rfl rfl
        · rw [if_neg hz, if_neg hz]
          exact Both.keep S _ rfl rfl
      rw [if_neg h4, if_neg h4]
      by_cases h5 : v3 = 5
      · rw [if_pos h5, if_pos h5]
        by_cases hz : nI i = 0
        · rw [if_pos hz, if_pos hz, rI_nI hl (by decide), bi_some, cg.2.2.1, mg.2.1]
          exact Both.keep S _ rfl rfl
        · rw [if_neg hz, if_neg hz]
          exact Both.keep S _ rfl rfl
      rw [if_neg h5, if_neg h5]
      exact Both.keep S _ rfl rfl
    · rw [b01_f (fun q => hi ((leafIx (by omega)).mp q)), if_pos rfl, isLeaf_out hm.1 hg hl hL hi, bd_some, if_pos rfl]
      exact Both.keep S _ rfl rfl
  · rw [logAt_none hc.1 hn, isLeaf_none hm.1 hn, bd_some, bd_some]
    exact Both.keep S (-1000) rfl rfl
