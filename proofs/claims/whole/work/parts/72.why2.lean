/-! why: the step -/
theorem clr48 {v1 v2 v3 v4 v5 : Int32} {K : Mem → Option (Int32 × Mem)} : ∀ (m n k : Nat) (μ : Mem), k + m = 10 → m < n → (∀ o, o < k → μ.1 48 o = 0) → ∃ μ', scM μ μ' ∧ f_X10_why_L21 v1 v2 v3 v4 v5 K n (nI k) μ = K μ' ∧ cmM μ' (fun _ => 0) := by
  intro m
  induction m with
  | zero =>
    intro n k μ hk hn h0
    obtain ⟨n', rfl⟩ : ∃ n', n = n' + 1 := ⟨n - 1, by omega⟩
    have : k = 10 := by omega
    subst this
    exact ⟨μ, scM.rf, by rw [f_X10_why_L21, if_pos (by decide)], fun o ho => h0 o ho⟩
  | succ m ih =>
    intro n k μ hk hn h0
    obtain ⟨n', rfl⟩ : ∃ n', n = n' + 1 := ⟨n - 1, by omega⟩
    have hk10 : ¬ (10 : Int32) ≤ nI k := nI_ge (b := 10) (by omega) (by omega)
    rw [f_X10_why_L21, if_neg hk10, wI_nI (by omega) (by decide), bi_some, nI_s]
    obtain ⟨μ', q1, q2, q3⟩ := ih n' (k + 1) (sI μ 48 k 0) (by omega) (by omega) (fun o ho => by
      rw [sI_at]
      by_cases e : o = k
      · rw [if_pos ⟨rfl, e⟩]
      · rw [if_neg (fun z => e z.2)]; exact h0 o (by omega))
    exact ⟨μ', scM.tr scM_48 q1, q2, q3⟩
theorem scC_fill {μ r : Mem} {b : Nat} (hb : b = 5 ∨ b = 10 ∨ b = 90 ∨ b = 91 ∨ b = 92) (h2 : r.2 = μ.2) (h1 : ∀ p, p ≠ b → r.1 p = μ.1 p) : scC μ r := ⟨fun p _ _ h5 _ h10 _ h90 h91 h92 => h1 p (by omega), by rw [h1 3 (by omega)], by rw [h1 3 (by omega)], h2⟩
theorem whO_0 {σ : St} {l : Nat} {g : LogD} {D : DoorD} {v3 v4 v5 : Int32} {M : Nat → Nat} (wd : WFd D) (h : whO (rvV σ l g D v3 v4 v5) D (dH D) 0 M = 0) : 0 ≤ v3.toInt + (offs (dC D 0 0) : Nat) ∧ v3.toInt + (offs (dC D 0 0) : Nat) < gN g := by
  have w1 := wd.1
  have w3 := wd.2.2.1
  have e1 : dH D = (dH D - 1) + 1 := by omega
  rw [e1] at h
  have h' : (if whR (rvV σ l g D v3 v4 v5) D 0 (dW D) 0 M = 0 then whO (rvV σ l g D v3 v4 v5) D (dH D - 1) 1 (ctR D 0 (dW D) 0 M) else whR (rvV σ l g D v3 v4 v5) D 0 (dW D) 0 M) = 0 := h
  have h2 : whR (rvV σ l g D v3 v4 v5) D 0 (dW D) 0 M = 0 := by
    by_cases q : whR (rvV σ l g D v3 v4 v5) D 0 (dW D) 0 M = 0
    · exact q
    · rw [if_neg q] at h'; exact h'
  have e2 : dW D = (dW D - 1) + 1 := by omega
  rw [e2] at h2
  have h3 : (if rvV σ l g D v3 v4 v5 (offs (dC D 0 0)) (M (offs (dC D 0 0))) = 0 then whR (rvV σ l g D v3 v4 v5) D 0 (dW D - 1) 1 (inc M (offs (dC D 0 0))) else rvV σ l g D v3 v4 v5 (offs (dC D 0 0)) (M (offs (dC D 0 0)))) = 0 := h2
  have h4 : rvV σ l g D v3 v4 v5 (offs (dC D 0 0)) (M (offs (dC D 0 0))) = 0 := by
    by_cases q : rvV σ l g D v3 v4 v5 (offs (dC D 0 0)) (M (offs (dC D 0 0))) = 0
    · exact q
    · rw [if_neg q] at h3; exact h3
  apply Classical.byContradiction
  intro hn
  unfold rvV rcV at h4
  rw [if_pos hn] at h4
  exact absurd h4 (by decide)
theorem Sim_sc {n : Nat} {σ : St} {μc μm rc rm : Mem} (hw : WF n σ) (hc : RC σ μc) (hm : RM σ μm) (h1 : scC μc rc) (h2 : scM μm rm) : Sim (n + 1) rc rm := ⟨σ, hw.mono, RC_sc hw hc h1, RM_sc hm h2⟩
theorem step_why {n : Nat} {μc μm : Mem} (S : Sim n μc μm) (hn5 : n < 512) (v1 v2 v3 v4 v5 : Int32) : Both n (f_X9_why v1 v2 v3 v4 v5 μc) (f_X10_why v1 v2 v3 v4 v5 μm) := by
  obtain ⟨σ, hw, hc, hm⟩ := S
  have S : Sim n μc μm := ⟨σ, hw, hc, hm⟩
  unfold f_X9_why f_X10_why
  rcases names v1 (σD σ) 8 with ⟨d, D, hd, rfl, hD⟩ | hn
  · have wd := (hw.2.1 d D hD).2
    rw [doorAt_some hc.2.1 hd hD, isDoor_some hm.2.1 wd hd hD, bd_some, bd_some, oc_some, if_neg (by decide)]
    rcases names v2 (σL σ) 3 with ⟨l, g, hl, rfl, hL⟩ | hn2
    · have hg := (hw.1 l g hL).2
      rw [logAt_some hc.1 hl hL, isLog_some hm.1 hg hl hL, bd_some, bd_some, oc_some, if_neg (by decide)]
      unfold f_X2_reason
      obtain ⟨c0, f1, f2, f3, f4⟩ := fillI (n0 := 10) (b := 10) (v := 0) (μ := μc) (by omega)
      rw [f1, bi_some]
      have s0 : scC μc c0 := scC_fill (by omega) f2 f3
      have hc0 := RC_sc hw hc s0
      obtain ⟨m0, t0, e0, g0⟩ := clr48 (v1 := nI d) (v2 := nI l) (v3 := v3) (v4 := v4) (v5 := v5) (K := fun μ9 => f_X10_why_L45 (nI d) (nI l) v3 v4 v5 (fun μ39 => bd (f_X10_hasTones (nI d) (nI l) v3 μ39) (fun r41 μ40 => (if r41 = 0 then (some ((5 : Int32), μ40)) else (some ((0 : Int32), μ40))))) FU (0 : Int32) μ9) 10 FU 0 μm rfl (by decide) (fun o ho => absurd ho (Nat.not_lt_zero o))
      have e0' := e0
      rw [show nI 0 = (0 : Int32) from rfl] at e0'
      rw [e0']
      have hm0 := RM_sc hm t0
      have w4 := wd.2.2.2.1
      obtain ⟨c1, s1, e1, g1⟩ := why_out (v3 := v3) (v4 := v4) (v5 := v5) (K := fun μ13 => bd (f_X2_areTonesApart (56 + 4 * d) (11 + 15 * l) μ13) (fun r15 μ14 => (if r15 = 0 then (some ((0 : Int32), μ14)) else (some ((5 : Int32), μ14))))) hw hl hL hd hD (dH D) FU 0 (fun _ => 0) c0 hc0 (fun o ho => f4 o ho) (fun q => Nat.le_refl 0) (by omega) (show dH D < 8192 by omega)
      obtain ⟨m1, t1, e2, g2⟩ := wm_out (v3 := v3) (v4 := v4) (v5 := v5) (K := fun μ39 => bd (f_X10_hasTones (nI d) (nI l) v3 μ39) (fun r41 μ40 => (if r41 = 0 then (some ((5 : Int32), μ40)) else (some ((0 : Int32), μ40))))) hw (by omega) hl hL hd hD (dH D) FU 0 (fun _ => 0) m0 hm0 g0 (fun q => Nat.le_refl 0) (by omega) (show dH D < 8192 by omega)
      rw [show nI 0 = (0 : Int32) from rfl] at e1 e2
      rw [e1, e2]
      have hs := scC.tr s0 s1
      have ht := scM.tr t0 t1
      by_cases h0 : whO (rvV σ l g D v3 v4 v5) D (dH D) 0 (fun _ => 0) = 0
      · rw [if_pos h0, if_pos h0]
        have hc1 := RC_sc hw hc hs
        have hm1 := RM_sc hm ht
        have cd : Cd c1 (56 + 4 * d) D := by have := hc1.2.1 d hd; rw [hD] at this; exact this
        obtain ⟨-, -, -, -, -, -, -, -, ⟨a, ha, hla, ea⟩, ⟨b, hb, hgb, eb⟩, -⟩ := cd
        have hq := whO_0 wd h0
        have hN := hg.2.1
        have hof := (wd.2.2.2.2.1 0 0 wd.1 wd.2.2.1).1
        have hcm : cmM m1 (cnt D) := fun o ho => by rw [← ctO_cnt]; exact g2 h0 o ho
        have hdec : Decidable (apart D g a b) := Int.decLt _ _
        have htn := @hasTones_eq n σ m1 l d a b g D v3.toInt hw hm1 hl hL hd hD hcm ha hb hla hgb (by omega) (by omega) hdec
        have hap := @apartC n σ c1 l d a b g D hw hc1 hl hL hd hD ha hb hla hgb ea eb hdec
        rw [iz_of] at htn
        rw [htn, hap, bd_some, bd_some]
        by_cases hx : apart D g a b
        · rw [b01_t hx, b01_f (fun z => z hx), if_neg (by decide), if_pos rfl, bd_some]
          exact ⟨_, _, _, rfl, rfl, Sim_sc hw hc hm hs ht⟩
        · rw [b01_f hx, b01_t hx, if_pos rfl, if_neg (by decide), bd_some]
          exact ⟨_, _, _, rfl, rfl, Sim_sc hw hc hm hs ht⟩
      · rw [if_neg h0, if_neg h0, bd_some]
        exact ⟨_, _, _, rfl, rfl, Sim_sc hw hc hm hs ht⟩
    · rw [logAt_none hc.1 hn2, isLog_none hm.1 hn2, bd_some, bd_some, oc_none, if_pos rfl]
      exact Both.keep S _ rfl rfl
  · rw [doorAt_none hc.2.1 hn, isDoor_none hm.2.1 hn, bd_some, bd_some, oc_none, if_pos rfl]
    rcases names v2 (σL σ) 3 with ⟨l, g, hl, rfl, hL⟩ | hn2
    · rw [logAt_some hc.1 hl hL, bd_some, oc_some]
      exact Both.keep S _ rfl rfl
    · rw [logAt_none hc.1 hn2, bd_some, oc_none]
      exact Both.keep S _ rfl rfl
