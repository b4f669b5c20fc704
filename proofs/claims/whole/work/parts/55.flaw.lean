/-! the step of flaw -/
theorem nat_rng {v : Int32} {a b : Nat} (hb : b < 2147483648) (h1 : nI a ≤ v) (h2 : v ≤ nI b) (ha : a < 2147483648) : ∃ x, a ≤ x ∧ x ≤ b ∧ v = nI x := by
  rw [le_toInt, nI_toInt (by omega)] at h1 h2
  obtain ⟨j, hj, e⟩ := nI_of (x := v) (by rw [lt_toInt]; have e0 : (0 : Int32).toInt = 0 := rfl; omega)
  subst e
  rw [nI_toInt hj] at h1 h2
  exact ⟨j, by omega, by omega, rfl⟩
theorem step_flaw {n : Nat} {μc μm : Mem} (S : Sim n μc μm) (v1 v2 v3 v4 v5 v6 : Int32) : Both n (f_X9_flaw v1 v2 v3 v4 v5 v6 μc) (f_X10_flaw v1 v2 v3 v4 v5 v6 μm) := by
  obtain ⟨σ, hw, hc, hm⟩ := S
  have S : Sim n μc μm := ⟨σ, hw, hc, hm⟩
  unfold f_X9_flaw f_X10_flaw
  rcases names v1 (σL σ) 3 with ⟨l, g, hl, rfl, hL⟩ | hn
  · have hg := (hw.1 l g hL).2
    have cg : Cg μc (11 + 15 * l) g := by have := hc.1 l hl; rw [hL] at this; exact this
    have mg : Mg μm l g := by have := hm.1 l hl; rw [hL] at this; exact this
    have hN : gN g ≤ 12 := hg.2.1
    have h10 := WFg_fl hg
    rw [logAt_some hc.1 hl hL, bd_some, oc_some, hasLeaf_eq cg.2.1 (by omega), bd_some, toI64]
    by_cases hi : ∃ i, i < gN g ∧ v2 = nI i
    · rw [b01_t ((leafIx (by omega)).mpr hi)]
      obtain ⟨i, hi, rfl⟩ := hi
      rw [isLeaf_in hm.1 hg hl hL hi, bd_some, if_neg (by decide), if_neg (by decide), isFrom_eq, isIn_eq, bd_some, bd_some]
      by_cases h3 : (0 : Int32) ≤ v3 ∧ v3 ≤ 100
      · rw [b01_t h3, if_neg (by decide), if_neg (by decide), isFrom_eq, isIn_eq, bd_some, bd_some]
        by_cases h4 : (0 : Int32) ≤ v4 ∧ v4 ≤ 100
        · rw [b01_t h4, if_neg (by decide), if_neg (by decide), isFrom_eq, isIn_eq, bd_some, bd_some]
          by_cases h5 : (1 : Int32) ≤ v5 ∧ v5 ≤ 100
          · rw [b01_t h5, if_neg (by decide), if_neg (by decide), isFrom_eq, isIn_eq, bd_some, bd_some]
            by_cases h6 : (1 : Int32) ≤ v6 ∧ v6 ≤ 100
            · rw [b01_t h6, if_neg (by decide), if_neg (by decide), rI_nI hl (by decide), bi_some, mg.2.2.2.2.2.2.1]
              unfold f_X4_addFlaw
              rw [cg.2.2.2.2.2.2.2.1]
              by_cases hk : (gF g).length = 10
              · rw [hk, if_neg (by decide), bd_some, if_pos (by decide)]
                exact Both.keep S _ rfl rfl
              · obtain ⟨x, x1, x2, rfl⟩ := nat_rng (a := 0) (b := 100) (by omega) h3.1 h3.2 (by omega)
                obtain ⟨y, y1, y2, rfl⟩ := nat_rng (a := 0) (b := 100) (by omega) h4.1 h4.2 (by omega)
                obtain ⟨w, w1, w2, rfl⟩ := nat_rng (a := 1) (b := 100) (by omega) h5.1 h5.2 (by omega)
                obtain ⟨h, t1, t2, rfl⟩ := nat_rng (a := 1) (b := 100) (by omega) h6.1 h6.2 (by omega)
                obtain ⟨k, hkk⟩ : ∃ k, k = (gF g).length := ⟨_, rfl⟩
                rw [← hkk] at hk h10 ⊢
                have hk9 : k < 10 := by omega
                obtain ⟨f, hfe⟩ : ∃ f : FlawD, f = (i, i, x, y, w, h, 0, 0) := ⟨_, rfl⟩
                have wff : WFf (gN g) f := by rw [hfe]; exact ⟨Nat.le_refl _, hi, x2, y2, w1, w2, t1, t2, show (-20 : Int) ≤ 0 by decide, show (0 : Int) ≤ 20 by decide, show (-20 : Int) ≤ 0 by decide, show (0 : Int) ≤ 20 by decide⟩
                have wfg : WFg (gN g, gLen g, gW g, gG g, gT g, gD g, gF g ++ [f]) := by
                  obtain ⟨q1, q2, q3, q4, q5, q6, q7, q8, q9, q10, q11, q12, q13⟩ := hg
                  refine ⟨q1, q2, q3, q4, q5, q6, q7, q8, q9, q10, q11, ?_, ?_⟩
                  · show (gF g ++ [f]).length ≤ 10
                    rw [List.length_append, List.length_singleton]; omega
                  · intro f2 hf2
                    rcases List.mem_append.mp hf2 with hz | hz
                    · exact q13 f2 hz
                    · rw [List.mem_singleton.mp hz]; exact wff
                -- the class
                obtain ⟨μ1, hμ1⟩ : ∃ μ1, f_X3_begin (11 + 15 * l + 5 + k) (nI i) (nI x) (nI y) (nI w) (nI h) μc = some μ1 ∧ (∀ b, b ≠ 11 + 15 * l + 5 + k → μ1.1 b = μc.1 b) ∧ μ1.2 = μc.2 ∧ Cf μ1 (11 + 15 * l + 5 + k) f := by
                  refine ⟨_, rfl, fun b hb => ?_, rfl, ?_⟩
                  · rw [sI_pl hb, sI_pl hb, sI_pl hb, sI_pl hb, sI_pl hb, sI_pl hb, sI_pl hb, sI_pl hb]
                  · rw [hfe]
                    refine ⟨by simp [sI_at], by simp [sI_at], by simp [sI_at], by simp [sI_at], by simp [sI_at], by simp [sI_at], ?_, ?_⟩
                    · show _ = iz 0; rw [← iz0]; simp [sI_at]
                    · show _ = iz 0; rw [← iz0]; simp [sI_at]
                obtain ⟨b1, b2, b3, b4⟩ := hμ1
                obtain ⟨c0, c1, c2, c3, c4, c5, c6, c7, c8, c9⟩ := cg
                have hne : (11 + 15 * l : Nat) ≠ 11 + 15 * l + 5 + k := by omega
                have ea := b2 (11 + 15 * l) hne
                obtain ⟨μ2, d1, d2, d3, d4⟩ := markFlaw_eq (a := 11 + 15 * l) hg wff b4 (by rw [ea]; exact c1) (by rw [ea]; exact c2) (by rw [ea]; exact c3) (by rw [ea]; exact c4)
                rw [if_pos (show nI k < (10 : Int32) from nI_lt hk9 (by decide)), rR_nI hk9 (by decide), bi_some, b1, bi_some, ea, c7, ← hkk, rR_nI hk9 (by decide), bi_some, d1, bi_some, bd_some, d2, ea, c7, ← hkk, nI_s]
                -- the model
                have hne10 : ¬ nI k = (10 : Int32) := fun q => hk (by have := nI_inj (b := 10) (by omega) (by omega) q; omega)
                have ei : (10 : Int32) * nI l + nI k = nI (10 * l + k) := by rw [show (10 : Int32) = nI 10 from rfl, pk_mul, nI_add]
                have hq30 : 10 * l + k < 30 := by omega
                rw [if_neg hne10, bi_some, ei, wI_nI hq30 (by decide), bi_some, wI_nI hq30 (by decide), bi_some, wI_nI hq30 (by decide), bi_some, wI_nI hq30 (by decide), bi_some, wI_nI hq30 (by decide), bi_some, wI_nI hq30 (by decide), bi_some, wI_nI hq30 (by decide), bi_some, wI_nI hq30 (by decide), bi_some]
                obtain ⟨M, hM⟩ : ∃ M, M = sI (sI (sI (sI (sI (sI (sI (sI μm 8 (10 * l + k) (nI i)) 9 (10 * l + k) (nI i)) 10 (10 * l + k) (nI x)) 11 (10 * l + k) (nI y)) 12 (10 * l + k) 0) 13 (10 * l + k) 0) 14 (10 * l + k) (nI w)) 15 (10 * l + k) (nI h) := ⟨_, rfl⟩
                rw [← hM]
                have m1 : ∀ b, b < 8 ∨ 16 ≤ b → M.1 b = μm.1 b := fun b hb => by rw [hM, sI_pl (by omega), sI_pl (by omega), sI_pl (by omega), sI_pl (by omega), sI_pl (by omega), sI_pl (by omega), sI_pl (by omega), sI_pl (by omega)]
                have m2 : ∀ b j, j ≠ 10 * l + k → M.1 b j = μm.1 b j := fun b j hj => by rw [hM, sI_sl hj, sI_sl hj, sI_sl hj, sI_sl hj, sI_sl hj, sI_sl hj, sI_sl hj, sI_sl hj]
                have m3 : Mf M (10 * l + k) f := by
                  rw [hfe, hM]
                  refine ⟨by simp [sI_at], by simp [sI_at], by simp [sI_at], by simp [sI_at], ?_, ?_, by simp [sI_at], by simp [sI_at]⟩
                  · show _ = iz 0; rw [← iz0]; simp [sI_at]
                  · show _ = iz 0; rw [← iz0]; simp [sI_at]
                obtain ⟨g1, g2, g3, g4, g5, g6, g7, g8⟩ := mg
                rw [rI_nI hl (by decide), bi_some, m1 7 (by omega), g7, ← hkk, wI_nI hl (by decide), bi_some, rI_nI hl (by decide), bi_some, sI_same, nI_s]
                refine ⟨nI k, _, _, by rw [nI_pred], by rw [sI_same, nI_pred], updL σ l (gN g, gLen g, gW g, gG g, gT g, gD g, gF g ++ [f]), WF_updL hw hL wfg rfl rfl rfl rfl, ?_, ?_⟩
                · have e : ∀ b, b ≠ 11 + 15 * l → b ≠ 11 + 15 * l + 5 + k → (sI μ2 (11 + 15 * l) 8 (nI (k + 1))).1 b = μc.1 b := fun b hb hb2 => by rw [sI_pl hb, d2, b2 b hb2]
                  have es : ∀ j, j ≠ 8 → (sI μ2 (11 + 15 * l) 8 (nI (k + 1))).1 (11 + 15 * l) j = μc.1 (11 + 15 * l) j := fun j hj => by rw [sI_sl hj, d2, ea]
                  refine RC_updL hw hc hl (fun b hb => e b (by omega) (by omega)) (fun b hb => ?_) ⟨?_, ?_, ?_, ?_, ?_, ?_, ?_, ?_, fun j f2 hj => ?_, fun i2 y2 x2 hi2 hy2 hx2 => ?_⟩ (e _ (by omega) (by omega)) ?_ ⟨g, hL⟩
                  · show μ2.2 b = μc.2 b
                    rw [d3 b (by omega), b3]
                  · rw [es 0 (by decide)]; exact c0
                  · rw [es 1 (by decide)]; exact c1
                  · rw [es 2 (by decide)]; exact c2
                  · rw [es 6 (by decide)]; exact c3
                  · rw [es 7 (by decide)]; exact c4
                  · rw [es 3 (by decide)]; exact c5
                  · rw [es 4 (by decide)]; exact c6
                  · rw [sI_same]
                    show nI (k + 1) = nI (gF g ++ [f]).length
                    rw [List.length_append, List.length_singleton, hkk]
                  · have hj2 : (gF g ++ [f])[j]? = some f2 := hj
                    by_cases hjk : j = k
                    · subst hjk
                      rw [hkk, List.getElem?_concat_length] at hj2
                      cases hj2
                      exact Cf_of (by rw [sI_pl (by omega), d2]) b4
                    · have hj3 : j < (gF g ++ [f]).length := (List.getElem?_eq_some_iff.mp hj2).1
                      rw [List.length_append, List.length_singleton] at hj3
                      rw [List.getElem?_append_left (by omega)] at hj2
                      exact Cf_of (e _ (by omega) (by omega)) (c8 j f2 hj2)
                  · show bitL (μ2.2 (11 + 15 * l + 3) (60 * i2 + y2)) x2 = true ↔ ∃ f' ∈ gF g ++ [f], covF f' i2 x2 y2
                    have hgl := hg.2.2.2.1
                    have hi3 : i2 < gN g := hi2
                    have hy3 : y2 < gLen g := hy2
                    have hx3 : x2 < wdt g i2 := hx2
                    have hwr := wdt_rng hg (show i2 < 12 by omega)
                    rw [d4 i2 y2 x2 (by omega) (by omega) (by omega), b3, Bool.or_eq_true, c9 i2 y2 x2 hi3 hy3 hx3, PO_cov hx3 hy3]
                    constructor
                    · rintro (⟨f', h1, h2⟩ | h2)
                      · exact ⟨f', List.mem_append_left _ h1, h2⟩
                      · exact ⟨f, List.mem_append_right _ (List.mem_singleton.mpr rfl), h2⟩
                    · rintro ⟨f', h1, h2⟩
                      rcases List.mem_append.mp h1 with h1 | h1
                      · exact Or.inl ⟨f', h1, h2⟩
                      · rw [List.mem_singleton.mp h1] at h2; exact Or.inr h2
                  · show μ2.2 (11 + 15 * l + 4) = μc.2 (11 + 15 * l + 4)
                    rw [d3 _ (by omega), b3]
                · refine RM_updL hw hm hl (fun b hb => by rw [sI_pl (by omega), m1 b (by omega)]) (fun b j hb hb2 _ hj => by rw [sI_sl hj, m1 b (by omega)]) (fun b j i2 hb hb2 hj3 hj hi2 => by rw [sI_pl (by omega), m2 b _ (by omega)]) ⟨?_, ?_, ?_, ?_, ?_, ?_, ?_, fun j f2 hj => ?_⟩
                  · rw [sI_pl (by decide), m1 1 (by omega)]; exact g1
                  · rw [sI_pl (by decide), m1 2 (by omega)]; exact g2
                  · rw [sI_pl (by decide), m1 3 (by omega)]; exact g3
                  · rw [sI_pl (by decide), m1 4 (by omega)]; exact g4
                  · rw [sI_pl (by decide), m1 5 (by omega)]; exact g5
                  · rw [sI_pl (by decide), m1 6 (by omega)]; exact g6
                  · rw [sI_same]
                    show nI (k + 1) = nI (gF g ++ [f]).length
                    rw [List.length_append, List.length_singleton, hkk]
                  · have hj2 : (gF g ++ [f])[j]? = some f2 := hj
                    by_cases hjk : j = k
                    · subst hjk
                      rw [hkk, List.getElem?_concat_length] at hj2
                      cases hj2
                      unfold Mf at m3 ⊢
                      simp (disch := omega) only [sI_pl]
                      exact m3
                    · have hj3 : j < (gF g ++ [f]).length := (List.getElem?_eq_some_iff.mp hj2).1
                      rw [List.length_append, List.length_singleton] at hj3
                      rw [List.getElem?_append_left (by omega)] at hj2
                      have H := g8 j f2 hj2
                      unfold Mf at H ⊢
                      simp (disch := omega) only [sI_pl, m2]
                      exact H
            · rw [b01_f h6, if_pos rfl, if_pos rfl]; exact Both.keep S _ rfl rfl
          · rw [b01_f h5, if_pos rfl, if_pos rfl]; exact Both.keep S _ rfl rfl
        · rw [b01_f h4, if_pos rfl, if_pos rfl]; exact Both.keep S _ rfl rfl
      · rw [b01_f h3, if_pos rfl, if_pos rfl]; exact Both.keep S _ rfl rfl
    · rw [b01_f (fun q => hi ((leafIx (by omega)).mp q)), if_pos rfl, isLeaf_out hm.1 hg hl hL hi, bd_some, if_pos rfl]
      exact Both.keep S _ rfl rfl
  · rw [logAt_none hc.1 hn, isLeaf_none hm.1 hn, bd_some, bd_some]
    exact Both.keep S (-1) rfl rfl
