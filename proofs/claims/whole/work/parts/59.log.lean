/-! the step of log -/
theorem forM {l : Nat} {Dr : Nat → Option DoorD} {K : Mem → Option (Int32 × Mem)} (hl : l < 3) (hb : ∀ d D q, Dr d = some D → dM D = some q → q.1 < 3) : ∀ (m n d : Nat) (μ : Mem), d + m = 8 → m < n → MD μ (unD l d Dr) → ∃ r, f_X10_log_L115 (nI l) K n (nI d) μ = K r ∧ MD r (unD l 8 Dr) ∧ (∀ b, b ≠ 44 → r.1 b = μ.1 b) := by
  intro m
  induction m with
  | zero =>
    intro n d μ hd hn H
    obtain ⟨n', rfl⟩ : ∃ n', n = n' + 1 := ⟨n - 1, by omega⟩
    have : d = 8 := by omega
    subst this
    exact ⟨μ, by rw [f_X10_log_L115, if_pos (by decide)], H, fun _ _ => rfl⟩
  | succ m ih =>
    intro n d μ hd hn H
    obtain ⟨n', rfl⟩ : ∃ n', n = n' + 1 := ⟨n - 1, by omega⟩
    have hd8 : d < 8 := by omega
    have H1 := H d hd8
    rw [unD_ge (Nat.lt_irrefl d)] at H1
    rw [f_X10_log_L115, if_neg (show ¬ (8 : Int32) ≤ nI d from nI_ge hd8 (by decide)), rI_nI hd8 (by decide), bi_some]
    have hm1 : ¬ (-1 : Int32) = nI l := fun q => m1_ne hl q.symm
    have same : unD l (d + 1) Dr d = unD l d Dr d → ∃ r, f_X10_log_L115 (nI l) K n' (nI d + 1) μ = K r ∧ MD r (unD l 8 Dr) ∧ (∀ b, b ≠ 44 → r.1 b = μ.1 b) := by
      intro e
      rw [nI_s]
      refine ih n' (d + 1) μ (by omega) (by omega) (fun k hk => ?_)
      by_cases hkd : k = d
      · subst hkd; rw [e]; exact H k hk
      · rw [unD_s hkd]; exact H k hk
    cases hD : Dr d with
    | none =>
      rw [hD] at H1
      rw [H1.2, if_neg hm1]
      exact same (by rw [unD_lt (by omega), unD_ge (Nat.lt_irrefl d), hD]; rfl)
    | some D =>
      rw [hD] at H1
      obtain ⟨p1, p2, p3, p4, p5, p6, p7⟩ := H1
      cases hM : dM D with
      | none =>
        rw [hM] at p7
        have p7' : μ.1 44 d = -1 := p7
        rw [p7', if_neg hm1]
        refine same ?_
        rw [unD_lt (by omega), unD_ge (Nat.lt_irrefl d), hD]
        show some (unm l D) = some D
        unfold unm; rw [hM]
        obtain ⟨a1, a2, a3, a4, a5, a6, a7⟩ := D
        cases hM; rfl
      | some q =>
        rw [hM] at p7
        have hq3 := hb d D q hD hM
        have p7' : μ.1 44 d = nI q.1 := p7.1
        rw [p7']
        by_cases hql : q.1 = l
        · rw [if_pos (by rw [hql]), wI_nI hd8 (by decide), bi_some, nI_s]
          obtain ⟨r, e1, e2, e3⟩ := ih n' (d + 1) (sI μ 44 d (-1)) (by omega) (by omega) (fun k hk => by
            by_cases hkd : k = d
            · subst hkd
              rw [unD_lt (by omega), hD]
              show Md _ _ (unm l D)
              unfold unm
              rw [hM]
              simp only [hql, if_true]
              refine ⟨by rw [sI_pl (by decide)]; exact p1, by rw [sI_pl (by decide)]; exact p2, fun c r hc hr => by rw [sI_pl (by decide)]; exact p3 c r hc hr, by rw [sI_pl (by decide)]; exact p4, by rw [sI_pl (by decide)]; exact p5, by rw [sI_pl (by decide)]; exact p6, ?_⟩
              exact sI_same _ _ _ _
            · rw [unD_s hkd]
              have H2 := H k hk
              cases hA : unD l d Dr k with
              | none =>
                rw [hA] at H2
                show (sI μ 44 d (-1)).1 38 k = 0 ∧ (sI μ 44 d (-1)).1 44 k = -1
                rw [sI_pl (by decide), sI_sl hkd]; exact H2
              | some E =>
                rw [hA] at H2
                unfold Md at *
                simp only [sI_sl hkd]
                obtain ⟨z1, z2, z3, z4, z5, z6, z7⟩ := H2
                exact ⟨z1, z2, fun c r hc hr => by rw [sI_pl (by decide)]; exact z3 c r hc hr, z4, z5, z6, z7⟩)
          exact ⟨r, e1, e2, fun b hb => by rw [e3 b hb, sI_pl hb]⟩
        · rw [if_neg (fun z => hql (nI_inj (by omega) (by omega) z))]
          refine same ?_
          rw [unD_lt (by omega), unD_ge (Nat.lt_irrefl d), hD]
          show some (unm l D) = some D
          unfold unm; rw [hM]
          obtain ⟨a1, a2, a3, a4, a5, a6, a7⟩ := D
          cases hM
          simp only [hql, if_false]
theorem kp_log {l : Nat} {s : Strip} (hl : l < 3) (hs : tL s < 3) : kp (nI l) (-1) s = true ↔ tL s ≠ l := by
  unfold kp
  have e : nI (tL s) = nI l ↔ tL s = l := ⟨fun h => nI_inj (by omega) (by omega) h, fun h => by rw [h]⟩
  simp [e]
def newL (σ : St) (l : Nat) (g : LogD) : St := (fun k => if k = l then some g else σL σ k, unD l 8 (σD σ), (σS σ).filter (kp (nI l) (-1)), σT σ, σF σ, σP σ)
theorem dM_unm_none {l : Nat} {D : DoorD} (h : dM D = none) : dM (unm l D) = none := by
  show (match dM D with | none => none | some q => if q.1 = l then none else some q) = none
  rw [h]
theorem dM_unm_eq {l : Nat} {D : DoorD} {q : Nat × Nat × Nat × Nat} (h : dM D = some q) : dM (unm l D) = if q.1 = l then none else some q := by
  show (match dM D with | none => none | some q => if q.1 = l then none else some q) = _
  rw [h]
theorem WF_newL {σ : St} {n l : Nat} {g : LogD} (hw : WF n σ) (hl : l < 3) (hg : WFg g) : WF (n + 1) (newL σ l g) := by
  have hmade := fun d D q => WF_made (n := n) (σ := σ) (d := d) (D := D) (q := q) hw
  obtain ⟨w1, w2, w3, w4, w5, w6, w7, w8, w9⟩ := hw.mono
  refine ⟨fun k q hk => ?_, fun d D hD => ?_, fun s hs => ?_, List.Pairwise.filter _ w4, Nat.le_trans (List.length_filter_le _ _) w5, fun d hd => ?_, w7, w8, w9⟩
  · have hk2 : (if k = l then some g else σL σ k) = some q := hk
    by_cases hkl : k = l
    · rw [if_pos hkl] at hk2; cases hk2; exact ⟨by omega, hg⟩
    · rw [if_neg hkl] at hk2; exact w1 k q hk2
  · have hD2 : unD l 8 (σD σ) d = some D := hD
    by_cases hd : d < 8
    · rw [unD_lt hd] at hD2
      cases hE : σD σ d with
      | none => rw [hE] at hD2; cases hD2
      | some E => rw [hE] at hD2; cases hD2; exact ⟨hd, (w2 d E hE).2⟩
    · rw [unD_ge hd] at hD2; exact w2 d D hD2
  · obtain ⟨h1, h2⟩ := List.mem_filter.mp hs
    obtain ⟨p1, ⟨q, p2, p3⟩, p4⟩ := w3 s h1
    have hne := (kp_log hl p1).mp h2
    exact ⟨p1, ⟨q, by show (if tL s = l then some g else σL σ (tL s)) = some q; rw [if_neg hne]; exact p2, p3⟩, p4⟩
  · show ((σS σ).filter (kp (nI l) (-1))).filter (fun s => tD s == (d : Int)) = match (unD l 8 (σD σ) d).bind dM with
      | none => []
      | some q => mkS d ((unD l 8 (σD σ) d).getD (0, 0, fun _ _ => 0, 0, 0, 0, none)) q.1 q.2.1 q.2.2.1 q.2.2.2
    have hcomm : ((σS σ).filter (kp (nI l) (-1))).filter (fun s => tD s == (d : Int)) = ((σS σ).filter (fun s => tD s == (d : Int))).filter (kp (nI l) (-1)) := by
      rw [List.filter_filter, List.filter_filter]
      congr 1
      funext s
      exact Bool.and_comm _ _
    rw [hcomm, w6 d hd, unD_lt hd]
    cases hD : σD σ d with
    | none => rfl
    | some D =>
      cases hM : dM D with
      | none =>
        simp only [Option.bind_some, Option.map_some, hM, dM_unm_none hM, List.filter_nil]
      | some q =>
        simp only [Option.bind_some, Option.map_some, hM, dM_unm_eq hM, Option.getD_some]
        have hq := (hmade d D q hD hM).1
        by_cases hql : q.1 = l
        · rw [if_pos hql]
          apply List.filter_eq_nil_iff.mpr
          intro s hs
          obtain ⟨o, -, ho⟩ := List.mem_filterMap.mp hs
          split at ho
          · cases ho
          · cases ho
            intro hk
            exact (kp_log hl (by show q.1 < 3; exact hq)).mp hk hql
        · rw [if_neg hql]
          show (mkS d D q.1 q.2.1 q.2.2.1 q.2.2.2).filter _ = mkS d (unm l D) q.1 q.2.1 q.2.2.1 q.2.2.2
          have e : mkS d (unm l D) q.1 q.2.1 q.2.2.1 q.2.2.2 = mkS d D q.1 q.2.1 q.2.2.1 q.2.2.2 := rfl
          rw [e]
          apply List.filter_eq_self.mpr
          intro s hs
          obtain ⟨o, -, ho⟩ := List.mem_filterMap.mp hs
          split at ho
          · cases ho
          · cases ho
            exact (kp_log hl (by show q.1 < 3; exact hq)).mpr (by show q.1 ≠ l; exact hql)
theorem sumM_filter {S : List Strip} {p : Strip → Bool} {k i : Nat} (h : ∀ s ∈ S, tL s = k → p s = true) : sumM (S.filter p) k i = sumM S k i := by
  unfold sumM
  rw [List.filter_filter]
  congr 2
  apply List.filter_congr
  intro s hs
  by_cases hk : tL s = k
  · rw [h s hs hk, Bool.and_true]
  · simp [hk]
theorem sumM_none {S : List Strip} {k i : Nat} (h : ∀ s ∈ S, tL s ≠ k) : sumM S k i = 0 := by
  unfold sumM
  rw [List.filter_eq_nil_iff.mpr (fun s hs => by simp [h s hs])]
  rfl
