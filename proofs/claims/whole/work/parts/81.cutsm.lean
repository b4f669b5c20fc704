/-! a door is made (model) -/
theorem cutsM_L {d l F Y X : Nat} {D : DoorD} (wd : WFd D) (hd : d < 8) : ∀ (m n k : Nat) (S : List Strip) (μ : Mem), k + m = 10 → m < n → MS μ S → S.length + m ≤ 6000 → cmM μ (cnt D) → Md μ d D → μ.1 0 60 = nI F → μ.1 0 61 = nI Y → μ.1 0 62 = nI X → ∃ r, f_X10_cuts_L2 (nI d) (nI l) (fun μ16 => some μ16) n (nI k) μ = some r ∧ MS r (S ++ (List.range' k m).filterMap (mk1 d D l F Y X)) ∧ (∀ b, 1 ≤ b → b < 16 ∨ 24 ≤ b → r.1 b = μ.1 b) ∧ ∀ j, j ≠ 15 → r.1 0 j = μ.1 0 j := by
  intro m
  induction m with
  | zero =>
    intro n k S μ hk hn hS h6 hM md h60 h61 h62
    obtain ⟨n', rfl⟩ : ∃ n', n = n' + 1 := ⟨n - 1, by omega⟩
    have : k = 10 := by omega
    subst this
    refine ⟨μ, by rw [f_X10_cuts_L2, if_pos (by decide)], ?_, fun _ _ _ => rfl, fun _ _ => rfl⟩
    show MS μ (S ++ [])
    rw [List.append_nil]; exact hS
  | succ m ih =>
    intro n k S μ hk hn hS h6 hM md h60 h61 h62
    obtain ⟨n', rfl⟩ : ∃ n', n = n' + 1 := ⟨n - 1, by omega⟩
    have hk10 : ¬ (10 : Int32) ≤ nI k := nI_ge (b := 10) (by omega) (by omega)
    have hc6 := cnt_le wd k
    rw [f_X10_cuts_L2, if_neg hk10, rI_nI (by omega) (by decide), bi_some, hM k (by omega), List.range'_succ]
    by_cases h0 : cnt D k = 0
    · rw [h0, if_pos (show nI 0 = 0 from rfl), nI_s, List.filterMap_cons_none (show mk1 d D l F Y X k = none from if_pos h0)]
      exact ih n' (k + 1) S μ (by omega) (by omega) hS (by omega) hM md h60 h61 h62
    · have hne : ¬ nI (cnt D k) = 0 := by
        rw [iz0, iz_nat]; exact fun z => h0 (by have := (iz_eq (by omega) (by omega) (by omega) (by omega)).mp z; omega)
      have h15 := hS.1
      have hN : S.length < 6000 := by omega
      rw [if_neg hne, List.filterMap_cons_some (mk1_ok h0)]
      obtain ⟨N, hNe⟩ : ∃ N, N = S.length := ⟨_, rfl⟩
      rw [← hNe] at h15 hN
      obtain ⟨M, hMe⟩ : ∃ M, M = sI (sI (sI (sI (sI (sI (sI (sI (sI μ 16 N (nI l)) 17 N (nI (F + k))) 18 N (nI X)) 19 N (nI Y)) 20 N (nI (dPw D))) 21 N (nI (cnt D k * dPh D))) 22 N (nI (cnt D k))) 23 N (nI d)) 0 15 (nI (N + 1)) := ⟨_, rfl⟩
      have hk' := hM k (by omega)
      rw [h15, wI_nI hN (by decide), bi_some]
      simp (disch := decide) only [sI_pl]
      rw [h15, h60, nI_add, wI_nI hN (by decide), bi_some]
      simp (disch := decide) only [sI_pl]
      rw [h15, h62, wI_nI hN (by decide), bi_some]
      simp (disch := decide) only [sI_pl]
      rw [h15, h61, wI_nI hN (by decide), bi_some, rI_nI hd (by decide), bi_some]
      simp (disch := decide) only [sI_pl]
      rw [md.2.2.2.1, h15, wI_nI hN (by decide), bi_some, rI_nI (by omega) (by decide), bi_some, rI_nI hd (by decide), bi_some]
      simp (disch := decide) only [sI_pl]
      rw [hk', md.2.2.2.2.1, pk_mul, h15, wI_nI hN (by decide), bi_some, rI_nI (by omega) (by decide), bi_some]
      simp (disch := decide) only [sI_pl]
      rw [hk', h15, wI_nI hN (by decide), bi_some]
      simp (disch := decide) only [sI_pl]
      rw [h15, wI_nI hN (by decide), bi_some]
      simp (disch := decide) only [sI_pl]
      rw [h15, nI_s, nI_s, ← hMe]
      have m1 : ∀ b, 1 ≤ b → b < 16 ∨ 24 ≤ b → M.1 b = μ.1 b := fun b h1 hb => by rw [hMe, sI_pl (by omega), sI_pl (by omega), sI_pl (by omega), sI_pl (by omega), sI_pl (by omega), sI_pl (by omega), sI_pl (by omega), sI_pl (by omega), sI_pl (by omega)]
      have m2 : ∀ b j, 1 ≤ b → j ≠ N → M.1 b j = μ.1 b j := fun b j h1 hj => by rw [hMe, sI_pl (show b ≠ 0 by omega), sI_sl hj, sI_sl hj, sI_sl hj, sI_sl hj, sI_sl hj, sI_sl hj, sI_sl hj, sI_sl hj]
      have m3 : ∀ j, j ≠ 15 → M.1 0 j = μ.1 0 j := fun j hj => by rw [hMe, sI_sl hj, sI_pl (by decide), sI_pl (by decide), sI_pl (by decide), sI_pl (by decide), sI_pl (by decide), sI_pl (by decide), sI_pl (by decide), sI_pl (by decide)]
      have hS1 : MS M (S ++ [(l, F + k, X, Y, dPw D, cnt D k * dPh D, cnt D k, (d : Int))]) := by
        refine ⟨by rw [hMe, sI_same, List.length_append, List.length_singleton, hNe], fun j s hj => ?_⟩
        by_cases hjk : j = N
        · subst hjk
          rw [hNe, List.getElem?_concat_length] at hj
          cases hj
          rw [hNe] at hMe
          refine ⟨?_, ?_, ?_, ?_, ?_, ?_, ?_, ?_⟩
          all_goals rw [hMe]; simp [sI_at, hNe]
          rfl
        · have hj3 : j < (S ++ [(l, F + k, X, Y, dPw D, cnt D k * dPh D, cnt D k, (d : Int))]).length := (List.getElem?_eq_some_iff.mp hj).1
          rw [List.length_append, List.length_singleton] at hj3
          rw [List.getElem?_append_left (by omega)] at hj
          exact Ms_mv (fun b _ _ => m2 b j (by omega) hjk) (hS.2 j s hj)
      obtain ⟨r, e, r1, r2, r3⟩ := ih n' (k + 1) _ M (by omega) (by omega) hS1 (by rw [List.length_append, List.length_singleton]; omega) (fun o ho => by rw [m1 48 (by omega) (by omega)]; exact hM o ho) (Md_of (fun b h1 h2 => m1 b (by omega) (by omega)) md) (by rw [m3 60 (by omega)]; exact h60) (by rw [m3 61 (by omega)]; exact h61) (by rw [m3 62 (by omega)]; exact h62)
      refine ⟨r, e, ?_, fun b h1 h2 => by rw [r2 b h1 h2, m1 b h1 h2], fun j hj => by rw [r3 j hj, m3 j hj]⟩
      rw [List.append_assoc] at r1
      exact r1
theorem cutsM {d l F Y X : Nat} {D : DoorD} {S : List Strip} {μ : Mem} (wd : WFd D) (hd : d < 8) (hS : MS μ S) (h6 : S.length + 10 ≤ 6000) (hM : cmM μ (cnt D)) (md : Md μ d D) (h60 : μ.1 0 60 = nI F) (h61 : μ.1 0 61 = nI Y) (h62 : μ.1 0 62 = nI X) : ∃ r, f_X10_cuts (nI d) (nI l) μ = some r ∧ MS r (S ++ mkS d D l F Y X) ∧ (∀ b, 1 ≤ b → b < 16 ∨ 24 ≤ b → r.1 b = μ.1 b) ∧ ∀ j, j ≠ 15 → r.1 0 j = μ.1 0 j := by
  rw [mkS_eq]
  exact cutsM_L wd hd 10 FU 0 S μ rfl (by decide) hS h6 hM md h60 h61 h62
