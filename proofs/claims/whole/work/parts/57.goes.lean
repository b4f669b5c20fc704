/-! strips that go: the model's rows are drawn together -/
def kp (v1 v2 : Int32) (s : Strip) : Bool := !(decide (nI (tL s) = v1) || (decide (¬ v2 = -1) && decide (iz (tD s) = v2)))
theorem Ms_mv {μ : Mem} {k n : Nat} {s : Strip} {r : Mem} (hr : ∀ b, 16 ≤ b → b < 24 → r.1 b n = μ.1 b k) (H : Ms μ k s) : Ms r n s := by
  unfold Ms at *
  rw [hr 16 (by omega) (by omega), hr 17 (by omega) (by omega), hr 18 (by omega) (by omega), hr 19 (by omega) (by omega), hr 20 (by omega) (by omega), hr 21 (by omega) (by omega), hr 22 (by omega) (by omega), hr 23 (by omega) (by omega)]
  exact H
/-- what stays when strips are moved -/
def kpS (μ r : Mem) : Prop := (∀ b, b < 16 ∨ 24 ≤ b → r.1 b = μ.1 b)
theorem go1 {v1 v2 : Int32} {K : Int32 → Mem → Option Mem} {m n k N : Nat} {s : Strip} {μ : Mem} (hs : Ms μ k s) (h15 : μ.1 0 15 = nI N) (hk : k < N) (hN : N ≤ 6000) (hn : n ≤ k) : ∃ r, f_X10_goes_L5 v1 v2 K (m + 1) (nI n) (nI k) μ = f_X10_goes_L5 v1 v2 K m (nI (if kp v1 v2 s = true then n + 1 else n)) (nI (k + 1)) r ∧ kpS μ r ∧ (∀ b j, j ≠ n → r.1 b j = μ.1 b j) ∧ (kp v1 v2 s = true → Ms r n s) ∧ (kp v1 v2 s = false → r = μ) := by
  have hk6 : k < 6000 := by omega
  have hn6 : n < 6000 := by omega
  rw [f_X10_goes_L5, h15, if_neg (nI_ge hk (by omega)), rI_nI hk6 (by decide), bi_some]
  obtain ⟨M, hM⟩ : ∃ M, M = sI (sI (sI (sI (sI (sI (sI (sI μ 16 n (μ.1 16 k)) 17 n (μ.1 17 k)) 18 n (μ.1 18 k)) 19 n (μ.1 19 k)) 20 n (μ.1 20 k)) 21 n (μ.1 21 k)) 22 n (μ.1 22 k)) 23 n (μ.1 23 k) := ⟨_, rfl⟩
  have m1 : kpS μ M := fun b hb => by rw [hM, sI_pl (by omega), sI_pl (by omega), sI_pl (by omega), sI_pl (by omega), sI_pl (by omega), sI_pl (by omega), sI_pl (by omega), sI_pl (by omega)]
  have m2 : ∀ b j, j ≠ n → M.1 b j = μ.1 b j := fun b j hj => by rw [hM, sI_sl hj, sI_sl hj, sI_sl hj, sI_sl hj, sI_sl hj, sI_sl hj, sI_sl hj, sI_sl hj]
  have m3 : Ms M n s := by
    refine Ms_mv (fun b h1 h2 => ?_) hs
    obtain rfl | rfl | rfl | rfl | rfl | rfl | rfl | rfl : b = 16 ∨ b = 17 ∨ b = 18 ∨ b = 19 ∨ b = 20 ∨ b = 21 ∨ b = 22 ∨ b = 23 := by omega
    all_goals rw [hM]; simp [sI_at]
  have mv : ∀ X : Mem → Option Mem, ((wI μ 6000 16 (nI n) (nI (tL s))).bind fun μ6 => (rI μ6 6000 17 (nI k)).bind fun e7 => (wI μ6 6000 17 (nI n) e7).bind fun μ8 => (rI μ8 6000 18 (nI k)).bind fun e9 => (wI μ8 6000 18 (nI n) e9).bind fun μ10 => (rI μ10 6000 19 (nI k)).bind fun e11 => (wI μ10 6000 19 (nI n) e11).bind fun μ12 => (rI μ12 6000 20 (nI k)).bind fun e13 => (wI μ12 6000 20 (nI n) e13).bind fun μ14 => (rI μ14 6000 21 (nI k)).bind fun e15 => (wI μ14 6000 21 (nI n) e15).bind fun μ16 => (rI μ16 6000 22 (nI k)).bind fun e17 => (wI μ16 6000 22 (nI n) e17).bind fun μ18 => (rI μ18 6000 23 (nI k)).bind fun e19 => (wI μ18 6000 23 (nI n) e19).bind fun μ20 => X μ20) = X M := by
    intro X
    rw [← hs.1, wI_nI hn6 (by decide), bi_some, rI_nI hk6 (by decide), bi_some, wI_nI hn6 (by decide), bi_some, rI_nI hk6 (by decide), bi_some, wI_nI hn6 (by decide), bi_some, rI_nI hk6 (by decide), bi_some, wI_nI hn6 (by decide), bi_some, rI_nI hk6 (by decide), bi_some, wI_nI hn6 (by decide), bi_some, rI_nI hk6 (by decide), bi_some, wI_nI hn6 (by decide), bi_some, rI_nI hk6 (by decide), bi_some, wI_nI hn6 (by decide), bi_some, rI_nI hk6 (by decide), bi_some, wI_nI hn6 (by decide), bi_some]
    simp (disch := decide) only [sI_pl]
    rw [← hM]
  by_cases h1 : nI (tL s) = v1
  · have hkp : kp v1 v2 s = false := by unfold kp; simp [h1]
    refine ⟨μ, ?_, fun _ _ => rfl, fun _ _ _ => rfl, (fun q => by rw [hkp] at q; cases q), fun _ => rfl⟩
    rw [hs.1, if_pos h1, nI_s, hkp]; rfl
  · rw [hs.1, if_neg h1]
    by_cases h2 : v2 = -1
    · have hkp : kp v1 v2 s = true := by unfold kp; simp [h1, h2]
      refine ⟨M, ?_, m1, m2, fun _ => m3, (fun q => by rw [hkp] at q; cases q)⟩
      rw [if_pos h2, bi_some, mv, nI_s, nI_s, if_pos hkp]
    · rw [if_neg h2, rI_nI hk6 (by decide), bi_some, hs.2.2.2.2.2.2.2]
      by_cases h3 : iz (tD s) = v2
      · have hkp : kp v1 v2 s = false := by unfold kp; simp [h1, h2, h3]
        refine ⟨μ, ?_, fun _ _ => rfl, fun _ _ _ => rfl, (fun q => by rw [hkp] at q; cases q), fun _ => rfl⟩
        rw [if_pos h3, nI_s, hkp]; rfl
      · have hkp : kp v1 v2 s = true := by unfold kp; simp [h1, h2, h3]
        refine ⟨M, ?_, m1, m2, fun _ => m3, (fun q => by rw [hkp] at q; cases q)⟩
        rw [if_neg h3, bi_some, mv, nI_s, nI_s, if_pos hkp]
theorem goL {v1 v2 : Int32} {K : Int32 → Mem → Option Mem} : ∀ (l : List Strip) (m k : Nat) (A : List Strip) (μ : Mem), (∀ j s, A[j]? = some s → Ms μ j s) → A.length ≤ k → (∀ j s, l[j]? = some s → Ms μ (k + j) s) → μ.1 0 15 = nI (k + l.length) → k + l.length ≤ 6000 → l.length < m → ∃ r, f_X10_goes_L5 v1 v2 K m (nI A.length) (nI k) μ = K (nI (A ++ l.filter (kp v1 v2)).length) r ∧ (∀ j s, (A ++ l.filter (kp v1 v2))[j]? = some s → Ms r j s) ∧ kpS μ r := by
  intro l
  induction l with
  | nil =>
    intro m k A μ hA hn hl h15 h6 hm
    obtain ⟨m', rfl⟩ : ∃ m', m = m' + 1 := ⟨m - 1, by simp at hm; omega⟩
    refine ⟨μ, ?_, by simpa using hA, fun _ _ => rfl⟩
    simp at h15
    rw [f_X10_goes_L5, h15, if_pos (nI_le (Nat.le_refl _) (by simp at h6; omega))]
    simp
  | cons s l ih =>
    intro m k A μ hA hn hl h15 h6 hm
    obtain ⟨m', rfl⟩ : ∃ m', m = m' + 1 := ⟨m - 1, by simp at hm; omega⟩
    simp only [List.length_cons] at h15 h6 hm
    obtain ⟨r, e, r1, r2, r3, r4⟩ := go1 (v1 := v1) (v2 := v2) (K := K) (m := m') (n := A.length) (k := k) (s := s) (hl 0 s rfl) h15 (by omega) (by omega) hn
    have h15' : r.1 0 15 = nI (k + 1 + l.length) := by rw [r1 0 (by omega), h15]; congr 1; omega
    have hl' : ∀ j s2, l[j]? = some s2 → Ms r (k + 1 + j) s2 := fun j s2 hj => Ms_mv (fun b _ _ => by rw [r2 b _ (by omega), show k + 1 + j = k + (j + 1) by omega]) (hl (j + 1) s2 hj)
    cases hkp : kp v1 v2 s with
    | true =>
      have hA' : ∀ j s2, (A ++ [s])[j]? = some s2 → Ms r j s2 := by
        intro j s2 hj
        by_cases hjk : j = A.length
        · subst hjk
          rw [List.getElem?_concat_length] at hj
          cases hj
          exact r3 hkp
        · have hj3 : j < (A ++ [s]).length := (List.getElem?_eq_some_iff.mp hj).1
          rw [List.length_append, List.length_singleton] at hj3
          rw [List.getElem?_append_left (by omega)] at hj
          exact Ms_mv (fun b _ _ => r2 b _ (by omega)) (hA j s2 hj)
      obtain ⟨q, e2, q1, q2⟩ := ih m' (k + 1) (A ++ [s]) r hA' (by rw [List.length_append, List.length_singleton]; omega) hl' h15' (by omega) (by omega)
      rw [hkp, if_pos rfl] at e
      rw [List.length_append, List.length_singleton] at e2
      rw [List.filter_cons_of_pos hkp]
      refine ⟨q, ?_, ?_, fun b hb => (q2 b hb).trans (r1 b hb)⟩
      · rw [e, e2]; simp
      · intro j s2 hj
        exact q1 j s2 (by simpa using hj)
    | false =>
      have hr := r4 hkp
      subst hr
      obtain ⟨q, e2, q1, q2⟩ := ih m' (k + 1) A r hA (by omega) hl' h15' (by omega) (by omega)
      rw [hkp, if_neg (by decide)] at e
      rw [List.filter_cons_of_neg (by rw [hkp]; decide)]
      exact ⟨q, e.trans e2, q1, q2⟩
theorem goes_eq {v1 v2 : Int32} {S : List Strip} {μ : Mem} (hS : MS μ S) (h6 : S.length ≤ 6000) : ∃ r, f_X10_goes v1 v2 μ = some r ∧ MS r (S.filter (kp v1 v2)) ∧ (∀ b, 1 ≤ b → (b < 16 ∨ 24 ≤ b) → r.1 b = μ.1 b) ∧ (∀ j, j ≠ 15 → r.1 0 j = μ.1 0 j) := by
  obtain ⟨r, e, h1, h2⟩ := goL (v1 := v1) (v2 := v2) (K := fun w39 μ40 => some (sI μ40 0 15 w39)) S FU 0 [] μ (fun j s hj => by simp at hj) (Nat.le_refl _) (fun j s hj => by rw [Nat.zero_add]; exact hS.2 j s hj) (by rw [Nat.zero_add]; exact hS.1) (by omega) (show S.length < 8192 by omega)
  refine ⟨_, e, ⟨by rw [sI_same]; rfl, fun k s hk => Ms_of (fun b hb _ => sI_pl (by omega)) (h1 k s hk)⟩, fun b hb hb2 => by rw [sI_pl (by omega)]; exact h2 b hb2, fun j hj => by rw [sI_sl hj, h2 0 (by omega)]⟩
