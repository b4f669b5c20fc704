/-! the greatest offset; the step of of -/
theorem sum_zero : ∀ {l : List Nat}, (∀ x ∈ l, x = 0) → l.sum = 0
  | [], _ => rfl
  | a :: l, h => by rw [List.sum_cons, h a List.mem_cons_self, sum_zero (fun x hx => h x (List.mem_cons_of_mem _ hx))]
theorem le_sum : ∀ {l : List Nat} {x : Nat}, x ∈ l → x ≤ l.sum
  | [], x, h => absurd h List.not_mem_nil
  | a :: l, x, h => by
    rw [List.sum_cons]
    rcases List.mem_cons.mp h with rfl | h
    · omega
    · have := le_sum h; omega
theorem cnt_pos {D : DoorD} {o : Nat} : cnt D o ≠ 0 ↔ ∃ c r, c < dW D ∧ r < dH D ∧ offs (dC D c r) = o := by
  unfold cnt
  constructor
  · intro h
    have h2 : 0 < ((List.range (dH D)).map (fun r => (List.range (dW D)).countP (fun c => offs (dC D c r) == o))).sum := Nat.pos_of_ne_zero h
    have : ∃ x ∈ (List.range (dH D)).map (fun r => (List.range (dW D)).countP (fun c => offs (dC D c r) == o)), x ≠ 0 := by
      apply Classical.byContradiction
      intro hn
      have hz : ∀ x ∈ (List.range (dH D)).map (fun r => (List.range (dW D)).countP (fun c => offs (dC D c r) == o)), x = 0 := fun x hx => Classical.byContradiction (fun q => hn ⟨x, hx, q⟩)
      exact h (sum_zero hz)
    obtain ⟨x, hx, hx0⟩ := this
    obtain ⟨r, hr, rfl⟩ := List.mem_map.mp hx
    obtain ⟨c, hc, hco⟩ := List.countP_pos_iff.mp (Nat.pos_of_ne_zero hx0)
    exact ⟨c, r, List.mem_range.mp hc, List.mem_range.mp hr, by simpa using hco⟩
  · rintro ⟨c, r, hc, hr, ho⟩ h
    have hm : (List.range (dW D)).countP (fun c => offs (dC D c r) == o) ∈ (List.range (dH D)).map (fun r => (List.range (dW D)).countP (fun c => offs (dC D c r) == o)) := List.mem_map.mpr ⟨r, List.mem_range.mpr hr, rfl⟩
    have h1 : (List.range (dW D)).countP (fun c => offs (dC D c r) == o) ≤ 0 := by rw [← h]; exact le_sum hm
    have h2 : 0 < (List.range (dW D)).countP (fun c => offs (dC D c r) == o) := List.countP_pos_iff.mpr ⟨c, List.mem_range.mpr hc, by simpa using ho⟩
    omega
def gI (D : DoorD) (r : Nat) : Nat → Nat → Nat → Nat
  | 0, _, M => M
  | m + 1, c, M => gI D r m (c + 1) (max M (offs (dC D c r)))
def gO (D : DoorD) : Nat → Nat → Nat → Nat
  | 0, _, M => M
  | m + 1, r, M => gO D m (r + 1) (gI D r (dW D) 0 M)
theorem gI_spec {D : DoorD} {r : Nat} : ∀ m c M, M ≤ gI D r m c M ∧ (∀ k, c ≤ k → k < c + m → offs (dC D k r) ≤ gI D r m c M) ∧ (gI D r m c M = M ∨ ∃ k, c ≤ k ∧ k < c + m ∧ gI D r m c M = offs (dC D k r)) := by
  intro m
  induction m with
  | zero => intro c M; exact ⟨Nat.le_refl _, fun k h1 h2 => by omega, Or.inl rfl⟩
  | succ m ih =>
    intro c M
    obtain ⟨h1, h2, h3⟩ := ih (c + 1) (max M (offs (dC D c r)))
    show M ≤ gI D r m (c + 1) _ ∧ (∀ k, c ≤ k → k < c + (m + 1) → offs (dC D k r) ≤ gI D r m (c + 1) _) ∧ (gI D r m (c + 1) _ = M ∨ ∃ k, c ≤ k ∧ k < c + (m + 1) ∧ gI D r m (c + 1) _ = offs (dC D k r))
    refine ⟨by omega, fun k hk1 hk2 => ?_, ?_⟩
    · by_cases hk : k = c
      · subst hk; omega
      · exact h2 k (by omega) (by omega)
    · rcases h3 with h | ⟨k, a, b, e⟩
      · by_cases hM : offs (dC D c r) ≤ M
        · left; omega
        · right; exact ⟨c, by omega, by omega, by omega⟩
      · right; exact ⟨k, by omega, by omega, e⟩
theorem gO_spec {D : DoorD} : ∀ m r M, M ≤ gO D m r M ∧ (∀ c k, c < dW D → r ≤ k → k < r + m → offs (dC D c k) ≤ gO D m r M) ∧ (gO D m r M = M ∨ ∃ c k, c < dW D ∧ r ≤ k ∧ k < r + m ∧ gO D m r M = offs (dC D c k)) := by
  intro m
  induction m with
  | zero => intro r M; exact ⟨Nat.le_refl _, fun c k _ h1 h2 => by omega, Or.inl rfl⟩
  | succ m ih =>
    intro r M
    obtain ⟨i1, i2, i3⟩ := gI_spec (D := D) (r := r) (dW D) 0 M
    obtain ⟨h1, h2, h3⟩ := ih (r + 1) (gI D r (dW D) 0 M)
    show M ≤ gO D m (r + 1) _ ∧ (∀ c k, c < dW D → r ≤ k → k < r + (m + 1) → offs (dC D c k) ≤ gO D m (r + 1) _) ∧ (gO D m (r + 1) _ = M ∨ ∃ c k, c < dW D ∧ r ≤ k ∧ k < r + (m + 1) ∧ gO D m (r + 1) _ = offs (dC D c k))
    refine ⟨by omega, fun c k hc hk1 hk2 => ?_, ?_⟩
    · by_cases hk : k = r
      · subst hk; have := i2 c (by omega) (by omega); omega
      · exact h2 c k hc (by omega) (by omega)
    · rcases h3 with h | ⟨c, k, a, b, e1, e2⟩
      · rcases i3 with q | ⟨k, a, b, e⟩
        · left; omega
        · right; exact ⟨k, r, by omega, by omega, by omega, by omega⟩
      · right; exact ⟨c, k, a, by omega, by omega, e2⟩
theorem gO_great {D : DoorD} {o : Nat} (wd : WFd D) (ho : o < 10) (h : isGreat D o) : gO D (dH D) 0 0 = o := by
  obtain ⟨h1, h2, h3⟩ := gO_spec (D := D) (dH D) 0 0
  obtain ⟨c, r, hc, hr, e⟩ := cnt_pos.mp h.1
  have g1 := h2 c r hc (by omega) (by omega)
  have g2 : gO D (dH D) 0 0 ≤ o := by
    rcases h3 with q | ⟨c2, k, a, b, q1, q2⟩
    · omega
    · apply Classical.byContradiction
      intro hlt
      have hz := h.2 (offs (dC D c2 k)) (by omega) (by have := (wd.2.2.2.2.1 c2 k a (by omega)).1; omega)
      exact (cnt_pos.mpr ⟨c2, k, a, by omega, rfl⟩) hz
  omega
theorem and15 {v : Nat} (h : v < 64) : nI v &&& 15 = nI (offs v) := pk_andN (by omega) 4 (by decide)
theorem mG_in {μ : Mem} {d : Nat} {D : DoorD} {r : Nat} {K : Int32 → Mem → Option (Int32 × Mem)} (hd : d < 8) (md : Md μ d D) (wd : WFd D) (hr : r < dH D) : ∀ (m n c M : Nat), c + m = dW D → m < n → M < 16 → f_X10_greatest_L17 (nI d) (nI r) K n (nI M) (nI c) μ = K (nI (gI D r m c M)) μ := by
  intro m
  induction m with
  | zero =>
    intro n c M hc hn hM
    obtain ⟨n', rfl⟩ : ∃ n', n = n' + 1 := ⟨n - 1, by omega⟩
    have w2 := wd.2.1
    rw [f_X10_greatest_L17, rI_nI hd (by decide), bi_some, md.1, if_pos (nI_le (by omega) (by omega))]; rfl
  | succ m ih =>
    intro n c M hc hn hM
    obtain ⟨n', rfl⟩ : ∃ n', n = n' + 1 := ⟨n - 1, by omega⟩
    have w2 := wd.2.1
    have w4 := wd.2.2.2.1
    have hcell := wd.2.2.2.2.1 c r (by omega) hr
    rw [f_X10_greatest_L17, rI_nI hd (by decide), bi_some, md.1, if_neg (nI_ge (show c < dW D by omega) (by omega)), pieceOf_eq hd (by omega) (by omega), bd_some, md.2.2.1 c r (by omega) hr, and15 hcell.2]
    show _ = K (nI (gI D r m (c + 1) _)) μ
    by_cases h : offs (dC D c r) ≤ M
    · rw [if_pos (nI_le h (by omega)), nI_s, ih n' (c + 1) M (by omega) (by omega) hM, Nat.max_eq_left h]
    · rw [if_neg (nI_ge (by omega) (by omega)), pieceOf_eq hd (by omega) (by omega), bd_some, md.2.2.1 c r (by omega) hr, and15 hcell.2, nI_s, ih n' (c + 1) _ (by omega) (by omega) (by omega), Nat.max_eq_right (by omega)]
theorem gI_lt {D : DoorD} {r : Nat} (wd : WFd D) (hr : r < dH D) {M : Nat} (hM : M < 16) : gI D r (dW D) 0 M < 16 := by
  rcases (gI_spec (D := D) (r := r) (dW D) 0 M).2.2 with h | ⟨k, a, b, e⟩
  · omega
  · have := (wd.2.2.2.2.1 k r (by omega) hr).1; omega
theorem mG_out {μ : Mem} {d : Nat} {D : DoorD} {K : Int32 → Mem → Option (Int32 × Mem)} (hd : d < 8) (md : Md μ d D) (wd : WFd D) : ∀ (m n r M : Nat), r + m = dH D → m < n → M < 16 → f_X10_greatest_L4 (nI d) K n (nI M) (nI r) μ = K (nI (gO D m r M)) μ := by
  intro m
  induction m with
  | zero =>
    intro n r M hr hn hM
    obtain ⟨n', rfl⟩ : ∃ n', n = n' + 1 := ⟨n - 1, by omega⟩
    have w2 := wd.2.2.2.1
    rw [f_X10_greatest_L4, rI_nI hd (by decide), bi_some, md.2.1, if_pos (nI_le (by omega) (by omega))]; rfl
  | succ m ih =>
    intro n r M hr hn hM
    obtain ⟨n', rfl⟩ : ∃ n', n = n' + 1 := ⟨n - 1, by omega⟩
    have w2 := wd.2.2.2.1
    have w3 := wd.2.1
    rw [f_X10_greatest_L4, rI_nI hd (by decide), bi_some, md.2.1, if_neg (nI_ge (show r < dH D by omega) (by omega)), show (0 : Int32) = nI 0 from rfl, mG_in hd md wd (by omega) (dW D) FU 0 M (by omega) (show dW D < 8192 by omega) hM, nI_s, ih n' (r + 1) _ (by omega) (by omega) (gI_lt wd (by omega) hM)]
    rfl
theorem greatest_eq {μ : Mem} {d o : Nat} {D : DoorD} (hd : d < 8) (md : Md μ d D) (wd : WFd D) (ho : o < 10) (hg : isGreat D o) : f_X10_greatest (nI d) μ = some (nI o, μ) := by
  have w2 := wd.2.2.2.1
  unfold f_X10_greatest
  rw [← gO_great wd ho hg]
  exact mG_out hd md wd (dH D) FU 0 0 (by omega) (show dH D < 8192 by omega) (by omega)
theorem step_of {n : Nat} {μc μm : Mem} (S : Sim n μc μm) (v1 v2 : Int32) : Both n (f_X9_of v1 v2 μc) (f_X10_of v1 v2 μm) := by
  obtain ⟨σ, hw, hc, hm⟩ := S
  have S : Sim n μc μm := ⟨σ, hw, hc, hm⟩
  unfold f_X9_of f_X10_of
  rcases names v1 (σD σ) 8 with ⟨d, D, hd, rfl, hD⟩ | hn
  · have wd := (hw.2.1 d D hD).2
    have cd : Cd μc (56 + 4 * d) D := by have := hc.2.1 d hd; rw [hD] at this; exact this
    have md : Md μm d D := by have := hm.2.1 d hd; rw [hD] at this; exact this
    obtain ⟨o, ho, hg, e7⟩ := cd.2.2.2.2.2.2.2.2.2.1
    have hmade := cd.2.2.2.2.2.2.2.2.2.2
    have hmadeM := md.2.2.2.2.2.2
    rw [doorAt_some hc.2.1 hd hD, isDoor_some hm.2.1 wd hd hD, bd_some, bd_some, oc_some, if_neg (show ¬ (1 : Int32) = 0 by decide)]
    simp only [rI_nI hd (show 8 < 2 ^ 31 by decide), bi_some, cd.2.1, cd.2.2.1, md.1, md.2.1, e7, greatest_eq hd md wd ho hg, countJoints_eq wd cd, joints_eq hm.2.1 hd hD wd, bd_some]
    cases hM : dM D with
    | none =>
      rw [hM] at hmade hmadeM
      obtain ⟨a1, a2, a3, a4⟩ := hmade
      have b1 : μm.1 44 d = -1 := hmadeM
      simp only [a1, a2, a3, a4, b1, if_true]
      by_cases h0 : v2 = 0
      · rw [if_pos h0, if_pos h0]; exact Both.keep S _ rfl rfl
      · rw [if_neg h0, if_neg h0]
        by_cases h1 : v2 = 1
        · rw [if_pos h1, if_pos h1]; exact Both.keep S _ rfl rfl
        · rw [if_neg h1, if_neg h1]
          by_cases h2 : v2 = 2
          · rw [if_pos h2, if_pos h2]; exact Both.keep S _ rfl rfl
          · rw [if_neg h2, if_neg h2]
            by_cases h3 : v2 = 3
            · rw [if_pos h3, if_pos h3]; exact Both.keep S _ rfl rfl
            · rw [if_neg h3, if_neg h3]
              by_cases h4 : v2 = 4
              · rw [if_pos h4, if_pos h4]; exact Both.keep S _ rfl rfl
              · rw [if_neg h4, if_neg h4]
                by_cases h5 : v2 = 5
                · rw [if_pos h5, if_pos h5]; exact Both.keep S _ rfl rfl
                · rw [if_neg h5, if_neg h5]
                  by_cases h6 : v2 = 6
                  · rw [if_pos h6, if_pos h6]; exact Both.keep S _ rfl rfl
                  · rw [if_neg h6, if_neg h6]
                    by_cases h7 : v2 = 7
                    · rw [if_pos h7, if_pos h7]; exact Both.keep S _ rfl rfl
                    · rw [if_neg h7, if_neg h7]
                      by_cases h8 : v2 = 8
                      · rw [if_pos h8, if_pos h8]; exact Both.keep S _ rfl rfl
                      · rw [if_neg h8, if_neg h8]
                        by_cases h9 : v2 = 9
                        · rw [if_pos h9, if_pos h9]; exact Both.keep S _ rfl rfl
                        · rw [if_neg h9, if_neg h9]
                          exact Both.keep S _ rfl rfl
    | some q =>
      rw [hM] at hmade hmadeM
      obtain ⟨a1, a2, a3, a4⟩ := hmade
      obtain ⟨b1, b2, b3, b4⟩ := hmadeM
      have hq : q.1 < 3 := by
        have h6 := hw.2.2.2.2.2.1 d hd
        rw [hD] at h6
        simp only [Option.bind_some, hM] at h6
        obtain ⟨c, r, hc9, hr9, e9⟩ := cnt_pos.mp hg.1
        have hmem : (q.1, q.2.1 + o, q.2.2.2, q.2.2.1, dPw D, cnt D o * dPh D, cnt D o, (d : Int)) ∈ mkS d D q.1 q.2.1 q.2.2.1 q.2.2.2 := List.mem_filterMap.mpr ⟨o, List.mem_range.mpr ho, by rw [if_neg hg.1]⟩
        have hmem2 : (q.1, q.2.1 + o, q.2.2.2, q.2.2.1, dPw D, cnt D o * dPh D, cnt D o, (d : Int)) ∈ (σS σ).filter (fun s => tD s == (d : Int)) := by rw [h6]; exact hmem
        exact (hw.2.2.1 _ (List.mem_filter.mp hmem2).1).1
      have hne : ¬ nI q.1 = (-1 : Int32) := by
        intro h
        have := congrArg Int32.toInt h
        rw [nI_toInt (by omega)] at this
        have e : (-1 : Int32).toInt = -1 := rfl
        omega
      simp only [a1, a2, a3, a4, b1, b2, b3, b4, hne, if_false]
      by_cases h0 : v2 = 0
      · rw [if_pos h0, if_pos h0]; exact Both.keep S _ rfl rfl
      · rw [if_neg h0, if_neg h0]
        by_cases h1 : v2 = 1
        · rw [if_pos h1, if_pos h1]; exact Both.keep S _ rfl rfl
        · rw [if_neg h1, if_neg h1]
          by_cases h2 : v2 = 2
          · rw [if_pos h2, if_pos h2]; exact Both.keep S _ rfl rfl
          · rw [if_neg h2, if_neg h2]
            by_cases h3 : v2 = 3
            · rw [if_pos h3, if_pos h3]; exact Both.keep S _ rfl rfl
            · rw [if_neg h3, if_neg h3]
              by_cases h4 : v2 = 4
              · rw [if_pos h4, if_pos h4]; exact Both.keep S _ rfl rfl
              · rw [if_neg h4, if_neg h4]
                by_cases h5 : v2 = 5
                · rw [if_pos h5, if_pos h5]; exact Both.keep S _ rfl rfl
                · rw [if_neg h5, if_neg h5]
                  by_cases h6 : v2 = 6
                  · rw [if_pos h6, if_pos h6]; exact Both.keep S _ rfl rfl
                  · rw [if_neg h6, if_neg h6]
                    by_cases h7 : v2 = 7
                    · rw [if_pos h7, if_pos h7]; exact Both.keep S _ rfl rfl
                    · rw [if_neg h7, if_neg h7]
                      by_cases h8 : v2 = 8
                      · rw [if_pos h8, if_pos h8]; exact Both.keep S _ rfl rfl
                      · rw [if_neg h8, if_neg h8]
                        by_cases h9 : v2 = 9
                        · rw [if_pos h9, if_pos h9]; exact Both.keep S _ rfl rfl
                        · rw [if_neg h9, if_neg h9]
                          exact Both.keep S _ rfl rfl
  · rw [doorAt_none hc.2.1 hn, isDoor_none hm.2.1 hn, bd_some, bd_some]
    exact Both.keep S (-1) rfl rfl
