/-! door: the model's machine, one step at a time -/
def cmK (μ14 : Mem) : Option Mem := (if (μ14.1 0 28) = 0 then (rI μ14 8 30 (μ14.1 0 44)).bind (fun e16 => (if e16 = 0 then (if ((0 : Int32) + (μ14.1 0 33)) ≤ (8 : Int32) then f_X10_comes_L220 ((64 : Int32) * (μ14.1 0 44)) (0 : Int32) (fun μ24 => (wI μ24 8 30 (μ24.1 0 44) (μ24.1 0 32)).bind (fun μ25 => (wI μ25 8 31 (μ25.1 0 44) ((0 : Int32) + (μ25.1 0 33))).bind (fun μ26 => (some μ26)))) FU (0 : Int32) μ14 else (rI μ14 8 34 (μ14.1 0 44)).bind (fun e27 => (f_X10_fail (3 : Int32) e27 μ14).bind (fun μ28 => (if (μ28.1 0 28) = 0 then f_X10_comes_L220 ((64 : Int32) * (μ14.1 0 44)) (0 : Int32) (fun μ30 => (wI μ30 8 30 (μ30.1 0 44) (μ30.1 0 32)).bind (fun μ31 => (wI μ31 8 31 (μ31.1 0 44) ((0 : Int32) + (μ31.1 0 33))).bind (fun μ32 => (some μ32)))) FU (0 : Int32) μ28 else (some μ28))))) else (rI μ14 8 31 (μ14.1 0 44)).bind (fun e33 => (if e33 ≤ 0 then (if (e33 + (μ14.1 0 33)) ≤ (8 : Int32) then f_X10_comes_L220 ((64 : Int32) * (μ14.1 0 44)) e33 (fun μ36 => (wI μ36 8 30 (μ36.1 0 44) (μ36.1 0 32)).bind (fun μ37 => (wI μ37 8 31 (μ37.1 0 44) (e33 + (μ37.1 0 33))).bind (fun μ38 => (some μ38)))) FU (0 : Int32) μ14 else (rI μ14 8 34 (μ14.1 0 44)).bind (fun e39 => (f_X10_fail (3 : Int32) e39 μ14).bind (fun μ40 => (if (μ40.1 0 28) = 0 then f_X10_comes_L220 ((64 : Int32) * (μ14.1 0 44)) e33 (fun μ42 => (wI μ42 8 30 (μ42.1 0 44) (μ42.1 0 32)).bind (fun μ43 => (wI μ43 8 31 (μ43.1 0 44) (e33 + (μ43.1 0 33))).bind (fun μ44 => (some μ44)))) FU (0 : Int32) μ40 else (some μ40))))) else (rI μ14 8 30 (μ14.1 0 44)).bind (fun e45 => (if e45 = (μ14.1 0 32) then (if (e33 + (μ14.1 0 33)) ≤ (8 : Int32) then f_X10_comes_L220 ((64 : Int32) * (μ14.1 0 44)) e33 (fun μ48 => (wI μ48 8 30 (μ48.1 0 44) (μ48.1 0 32)).bind (fun μ49 => (wI μ49 8 31 (μ49.1 0 44) (e33 + (μ49.1 0 33))).bind (fun μ50 => (some μ50)))) FU (0 : Int32) μ14 else (rI μ14 8 34 (μ14.1 0 44)).bind (fun e51 => (f_X10_fail (3 : Int32) e51 μ14).bind (fun μ52 => (if (μ52.1 0 28) = 0 then f_X10_comes_L220 ((64 : Int32) * (μ14.1 0 44)) e33 (fun μ54 => (wI μ54 8 30 (μ54.1 0 44) (μ54.1 0 32)).bind (fun μ55 => (wI μ55 8 31 (μ55.1 0 44) (e33 + (μ55.1 0 33))).bind (fun μ56 => (some μ56)))) FU (0 : Int32) μ52 else (some μ52))))) else (rI μ14 8 34 (μ14.1 0 44)).bind (fun e57 => (f_X10_fail (2 : Int32) e57 μ14).bind (fun μ58 => (if (μ58.1 0 28) = 0 then f_X10_comes_L220 ((64 : Int32) * (μ14.1 0 44)) e33 (fun μ60 => (wI μ60 8 30 (μ60.1 0 44) (μ60.1 0 32)).bind (fun μ61 => (wI μ61 8 31 (μ61.1 0 44) (e33 + (μ61.1 0 33))).bind (fun μ62 => (some μ62)))) FU (0 : Int32) μ58 else (some μ58)))))))))) else (some μ14))
theorem comes_eq {μ : Mem} : f_X10_comes μ = f_X10_comes_L0 cmK FU μ := rfl
def dr (n : Nat) (a b : Int32) (μ : Mem) : Option Mem := f_X10_draws_L18 (fun μ60 => (some μ60)) n a b μ
theorem one0 : ¬ (1 : Int32) = 0 := by decide
theorem dr_bad {n : Nat} {a : Int32} {μ : Mem} (h : ¬ μ.1 0 28 = 0) : dr (n + 1) a 1 μ = some μ := by
  unfold dr; rw [f_X10_draws_L18, if_neg one0, if_neg h]
theorem dr_end {n : Nat} {a : Int32} {μ : Mem} : dr (n + 1) a 0 μ = some μ := by
  unfold dr; rw [f_X10_draws_L18, if_pos rfl]
theorem dr_w0 {n : Nat} {μ r : Mem} (h : μ.1 0 28 = 0) (e : f_X10_parts μ = some (0, r)) : dr (n + 1) 1 1 μ = dr n 1 1 r := by
  unfold dr; rw [f_X10_draws_L18, if_neg one0, if_pos h, if_neg one0, e, bd_some, if_pos rfl]
theorem dr_w1 {n : Nat} {μ r : Mem} (h : μ.1 0 28 = 0) (e : f_X10_parts μ = some (1, r)) : dr (n + 1) 1 1 μ = (f_X10_comes r).bind (fun μ59 => dr n 0 1 μ59) := by
  unfold dr; rw [f_X10_draws_L18, if_neg one0, if_pos h, if_neg one0, e, bd_some, if_neg one0]
theorem dr_47 {n : Nat} {μ r : Mem} {v : Int32} (h : μ.1 0 28 = 0) (e : f_X10_next μ = some (v, r)) (hv : v = 47) : dr (n + 1) 0 1 μ = (wI r 8 34 (r.1 0 44) (r.1 0 26)).bind (fun μ8 => dr n 1 1 (sI μ8 0 26 ((μ8.1 0 26) + 1))) := by
  unfold dr; rw [f_X10_draws_L18, if_neg one0, if_pos h, if_pos rfl, e, bd_some, if_pos hv]
theorem dr_eb {n : Nat} {μ r s : Mem} {v : Int32} (h : μ.1 0 28 = 0) (e : f_X10_next μ = some (v, r)) (hv : ¬ v = 47) (e2 : f_X10_ends r = some s) (hs : ¬ s.1 0 28 = 0) : dr (n + 1) 0 1 μ = dr n 0 1 s := by
  unfold dr; rw [f_X10_draws_L18, if_neg one0, if_pos h, if_pos rfl, e, bd_some, if_neg hv, e2, bi_some, if_neg hs]
theorem dr_124 {n : Nat} {μ r s : Mem} {v : Int32} (h : μ.1 0 28 = 0) (e : f_X10_next μ = some (v, r)) (hv : v = 124) (e2 : f_X10_ends r = some s) (hs : s.1 0 28 = 0) : dr (n + 1) 0 1 μ = (wI s 8 33 (s.1 0 44) (s.1 0 26)).bind (fun μ30 => dr n 1 1 (sI μ30 0 26 ((μ30.1 0 26) + 1))) := by
  unfold dr; rw [f_X10_draws_L18, if_neg one0, if_pos h, if_pos rfl, e, bd_some, if_neg (by rw [hv]; decide), e2, bi_some, if_pos hs, if_pos hv, if_neg (by rw [hv]; decide), if_neg (by rw [hv]; decide)]
theorem dr_41 {n : Nat} {μ r s : Mem} {v : Int32} (h : μ.1 0 28 = 0) (e : f_X10_next μ = some (v, r)) (hv : v = 41) (e2 : f_X10_ends r = some s) (hs : s.1 0 28 = 0) (hd : ¬ s.1 0 44 = 0) : dr (n + 1) 0 1 μ = (f_X10_rowIsPart (sI s 0 26 ((s.1 0 26) + 1))).bind (fun μ45 => (f_X10_comes (sI (sI μ45 0 44 ((μ45.1 0 44) - 1)) 0 45 (((sI μ45 0 44 ((μ45.1 0 44) - 1)).1 0 45) - 1))).bind (fun μ46 => dr n 0 1 μ46)) := by
  unfold dr; rw [f_X10_draws_L18, if_neg one0, if_pos h, if_pos rfl, e, bd_some, if_neg (by rw [hv]; decide), e2, bi_some, if_pos hs, if_neg (by rw [hv]; decide), if_pos hv, if_neg hd, if_neg (by rw [hv]; decide)]
theorem failM {μ : Mem} {k p : Int32} (h : μ.1 0 28 = 0) : f_X10_fail k p μ = some (sI (sI μ 0 28 k) 0 29 p) := by
  unfold f_X10_fail; rw [if_pos h]
theorem fbad {μ : Mem} {k p : Int32} (hk : ¬ k = 0) : ¬ (sI (sI μ 0 28 k) 0 29 p).1 0 28 = 0 := by
  rw [sI_sl (by decide), sI_same]; exact hk
theorem dr_410 {n : Nat} {μ r s : Mem} {v : Int32} (h : μ.1 0 28 = 0) (e : f_X10_next μ = some (v, r)) (hv : v = 41) (e2 : f_X10_ends r = some s) (hs : s.1 0 28 = 0) (hd : s.1 0 44 = 0) : dr (n + 1 + 1) 0 1 μ = some (sI (sI s 0 28 1) 0 29 (s.1 0 26)) := by
  have : dr (n + 1 + 1) 0 1 μ = dr (n + 1) 0 1 (sI (sI s 0 28 1) 0 29 (s.1 0 26)) := by
    unfold dr; rw [f_X10_draws_L18, if_neg one0, if_pos h, if_pos rfl, e, bd_some, if_neg (by rw [hv]; decide), e2, bi_some, if_pos hs, if_neg (by rw [hv]; decide), if_pos hv, if_pos hd, failM hs, bi_some, if_neg (fbad one0)]
  rw [this, dr_bad (fbad one0)]
theorem dr_fin {n : Nat} {μ r s : Mem} {v : Int32} (h : μ.1 0 28 = 0) (e : f_X10_next μ = some (v, r)) (hv : v = -1) (e2 : f_X10_ends r = some s) (hs : s.1 0 28 = 0) (hd : s.1 0 44 = 0) : dr (n + 1) 0 1 μ = (f_X10_rowIsPart s).bind (fun μ49 => dr n 0 0 μ49) := by
  unfold dr; rw [f_X10_draws_L18, if_neg one0, if_pos h, if_pos rfl, e, bd_some, if_neg (by rw [hv]; decide), e2, bi_some, if_pos hs, if_neg (by rw [hv]; decide), if_neg (by rw [hv]; decide), if_pos hv, if_pos (by rw [hd]; decide)]
theorem dr_oth {n : Nat} {μ r s : Mem} {v : Int32} (h : μ.1 0 28 = 0) (e : f_X10_next μ = some (v, r)) (h47 : ¬ v = 47) (h124 : ¬ v = 124) (h41 : ¬ v = 41) (e2 : f_X10_ends r = some s) (hs : s.1 0 28 = 0) (hd : v = -1 → ¬ s.1 0 44 ≤ 0) : dr (n + 1 + 1) 0 1 μ = some (sI (sI s 0 28 1) 0 29 (s.1 0 26)) := by
  have : dr (n + 1 + 1) 0 1 μ = dr (n + 1) 0 1 (sI (sI s 0 28 1) 0 29 (s.1 0 26)) := by
    unfold dr
    rw [f_X10_draws_L18, if_neg one0, if_pos h, if_pos rfl, e, bd_some, if_neg h47, e2, bi_some, if_pos hs, if_neg h124, if_neg h41]
    by_cases hv : v = -1
    · rw [if_pos hv, if_neg (hd hv), failM hs, bi_some, if_neg (fbad one0)]
    · rw [if_neg hv, failM hs, bi_some, if_neg (fbad one0)]
  rw [this, dr_bad (fbad one0)]
/-- a tape in the model's memory -/
def tpM (μ : Mem) (T : List Nat) : Prop := μ.1 0 27 = nI T.length ∧ (∀ k b, T[k]? = some b → μ.1 24 k = nI b) ∧ T.length ≤ 400 ∧ ∀ b ∈ T, b < 256
def frO (μ r : Mem) (j : Nat) : Prop := (∀ b, b ≠ 0 → r.1 b = μ.1 b) ∧ ∀ i, i ≠ j → r.1 0 i = μ.1 0 i
theorem frO.rf {μ : Mem} {j : Nat} : frO μ μ j := ⟨fun _ _ => rfl, fun _ _ => rfl⟩
theorem frO.tr {a b c : Mem} {j : Nat} (h1 : frO a b j) (h2 : frO b c j) : frO a c j := ⟨fun q p => (h2.1 q p).trans (h1.1 q p), fun q p => (h2.2 q p).trans (h1.2 q p)⟩
theorem frO_s {μ : Mem} {j : Nat} {v : Int32} : frO μ (sI μ 0 j v) j := ⟨fun _ h => sI_pl h, fun _ h => sI_sl h⟩
theorem tpM_of {μ r : Mem} {T : List Nat} (h : tpM μ T) (h1 : r.1 0 27 = μ.1 0 27) (h2 : r.1 24 = μ.1 24) : tpM r T := ⟨by rw [h1]; exact h.1, by rw [h2]; exact h.2.1, h.2.2⟩
theorem nxm_L {T : List Nat} {K : Mem → Option (Int32 × Mem)} : ∀ (m n p : Nat) (μ : Mem), tpM μ T → μ.1 0 26 = nI p → p ≤ T.length → m < n → T.length ≤ p + m → ∃ r, f_X10_next_L0 K n μ = K r ∧ r.1 0 26 = nI (nxF T m p) ∧ frO μ r 26 := by
  intro m
  induction m with
  | zero =>
    intro n p μ ht h4 hp hn hm
    obtain ⟨n', rfl⟩ : ∃ n', n = n' + 1 := ⟨n - 1, by omega⟩
    have := ht.2.2.1
    exact ⟨μ, by rw [f_X10_next_L0, ht.1, h4, if_pos (nI_le (by omega) (by omega))], h4, frO.rf⟩
  | succ m ih =>
    intro n p μ ht h4 hp hn hm
    obtain ⟨n', rfl⟩ : ∃ n', n = n' + 1 := ⟨n - 1, by omega⟩
    have hl := ht.2.2.1
    by_cases hpl : T.length ≤ p
    · have e : nxF T (m + 1) p = p := by
        have hnone : T[p]? = none := List.getElem?_eq_none (by omega)
        show (if T[p]? = some 10 ∨ T[p]? = some 32 then nxF T m (p + 1) else p) = p
        rw [if_neg (by rw [hnone]; rintro (z | z) <;> cases z)]
      rw [e]
      exact ⟨μ, by rw [f_X10_next_L0, ht.1, h4, if_pos (nI_le (by omega) (by omega))], h4, frO.rf⟩
    · obtain ⟨b, hb2⟩ : ∃ b, T[p]? = some b := ⟨_, List.getElem?_eq_getElem (by omega)⟩
      have hbl := ht.2.2.2 b (List.mem_of_getElem? hb2)
      rw [f_X10_next_L0, ht.1, h4, if_neg (nI_ge (by omega) (by omega)), rI_nI (by omega) (by decide), bi_some, ht.2.1 p b hb2]
      have c1 : nI b = (10 : Int32) ↔ T[p]? = some 10 := by
        rw [hb2, show (10 : Int32) = iz 10 by decide, iz_nat, iz_eq (by omega) (by omega) (by omega) (by omega)]
        constructor
        · intro z; congr 1; omega
        · intro z; cases z; rfl
      have c2 : nI b = (32 : Int32) ↔ T[p]? = some 32 := by
        rw [hb2, show (32 : Int32) = iz 32 by decide, iz_nat, iz_eq (by omega) (by omega) (by omega) (by omega)]
        constructor
        · intro z; congr 1; omega
        · intro z; cases z; rfl
      have go : T[p]? = some 10 ∨ T[p]? = some 32 → ∃ r, f_X10_next_L0 K n' (sI μ 0 26 (nI p + 1)) = K r ∧ r.1 0 26 = nI (nxF T (m + 1) p) ∧ frO μ r 26 := by
        intro h
        have e : nxF T (m + 1) p = nxF T m (p + 1) := if_pos h
        rw [e, nI_s]
        obtain ⟨r, e1, e2, e3⟩ := ih n' (p + 1) (sI μ 0 26 (nI (p + 1))) (tpM_of ht (sI_sl (by decide)) (sI_pl (by decide))) (sI_same _ _ _ _) (by omega) (by omega) (by omega)
        exact ⟨r, e1, e2, frO.tr frO_s e3⟩
      by_cases h1 : T[p]? = some 10
      · rw [if_pos (c1.mpr h1)]
        exact go (Or.inl h1)
      · rw [if_neg (fun z => h1 (c1.mp z)), bi_some]
        by_cases h2 : T[p]? = some 32
        · rw [if_pos (c2.mpr h2)]
          exact go (Or.inr h2)
        · have e : nxF T (m + 1) p = p := if_neg (by rintro (z | z); exact h1 z; exact h2 z)
          rw [if_neg (fun z => h2 (c2.mp z)), e]
          exact ⟨μ, rfl, h4, frO.rf⟩
theorem nextM {μ : Mem} {T : List Nat} {p : Nat} (ht : tpM μ T) (h4 : μ.1 0 26 = nI p) (hp : p ≤ T.length) : ∃ r, f_X10_next μ = some (byv T (nx T p), r) ∧ r.1 0 26 = nI (nx T p) ∧ frO μ r 26 := by
  have hl := ht.2.2.1
  have hn := nx_le hp
  obtain ⟨r, e, e4, f⟩ := nxm_L (K := fun μ6 => (if (μ6.1 0 27) ≤ (μ6.1 0 26) then (some ((-1 : Int32), μ6)) else (rI μ6 400 24 (μ6.1 0 26)).bind (fun e8 => (some (e8, μ6))))) T.length FU p μ ht h4 hp (show T.length < 8192 by omega) (by omega)
  unfold f_X10_next
  have e4' : r.1 0 26 = nI (nx T p) := e4
  have htr : tpM r T := tpM_of ht (f.2 27 (by decide)) (f.1 24 (by decide))
  refine ⟨r, ?_, e4', f⟩
  rw [e, e4', htr.1]
  unfold byv bq
  cases hq : T[nx T p]? with
  | none =>
    have : T.length ≤ nx T p := List.getElem?_eq_none_iff.mp hq
    rw [if_pos (nI_le (by omega) (by omega))]; rfl
  | some b =>
    have h1 : nx T p < T.length := (List.getElem?_eq_some_iff.mp hq).1
    have hbl := ht.2.2.2 b (List.mem_of_getElem? hq)
    rw [if_neg (nI_ge (by omega) (by omega)), rI_nI (by omega) (by decide), bi_some, htr.2.1 _ b hq]
    simp only
    rw [if_neg (by omega)]
