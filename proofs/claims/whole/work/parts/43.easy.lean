/-! which log, which door a number names; the steps of end, fault, planned, tone -/
theorem nI_inj {a b : Nat} (ha : a < 2 ^ 31) (hb : b < 2 ^ 31) (h : nI a = nI b) : a = b := (nI_eq ha hb).mp h
/-- a number names a thing of a row of n, or none -/
theorem names {α : Type} (v : Int32) (L : Nat → Option α) (n : Nat) : (∃ l g, l < n ∧ v = nI l ∧ L l = some g) ∨ (∀ l, l < n → v = nI l → L l = none) := by
  by_cases h : ∃ l, l < n ∧ v = nI l ∧ L l ≠ none
  · obtain ⟨l, h1, h2, h3⟩ := h
    cases hL : L l with
    | none => exact absurd hL h3
    | some g => exact Or.inl ⟨l, g, h1, h2, hL⟩
  · refine Or.inr (fun l h1 h2 => ?_)
    cases hL : L l with
    | none => rfl
    | some g => exact absurd ⟨l, h1, h2, by rw [hL]; exact fun q => by cases q⟩ h
theorem nI_btw {l n : Nat} (h : l < n) (hn : n < 2 ^ 31) : (0 : Int32) ≤ nI l ∧ nI l ≤ nI (n - 1) := ⟨nI_pos' (by omega), nI_le (by omega) (by omega)⟩
theorem btw_nI {v : Int32} {n : Nat} (hn : n < 2 ^ 31) (h0 : 0 < n) (h1 : (0 : Int32) ≤ v) (h2 : v ≤ nI (n - 1)) : ∃ l, l < n ∧ v = nI l := by
  obtain ⟨j, hj, e⟩ := nI_rng (n := n - 1) h1 (by rw [le_toInt, nI_toInt (by omega)] at h2; exact h2)
  exact ⟨j, by omega, e⟩
theorem logAt_some {μ : Mem} {L : Nat → Option LogD} {l : Nat} {g : LogD} (hC : CL μ L) (hl : l < 3) (hL : L l = some g) : f_X8_logAt (nI l) μ = some (some (11 + 15 * l), μ) := by
  have h := hC l hl
  rw [hL] at h
  have h0 : μ.1 (11 + 15 * l) 0 = 1 := h.1
  unfold f_X8_logAt
  rw [isFrom_eq, bd_some, b01_t (show (0 : Int32) ≤ nI l ∧ nI l ≤ 2 from nI_btw hl (by decide)), if_neg (by decide), rR_nI hl (by decide), bi_some, h0, if_neg (by decide), bi_some]
theorem logAt_none {μ : Mem} {L : Nat → Option LogD} {v : Int32} (hC : CL μ L) (hn : ∀ l, l < 3 → v = nI l → L l = none) : f_X8_logAt v μ = some (none, μ) := by
  unfold f_X8_logAt
  rw [isFrom_eq, bd_some]
  by_cases hb : (0 : Int32) ≤ v ∧ v ≤ 2
  · obtain ⟨l, hl, rfl⟩ := btw_nI (n := 3) (by decide) (by decide) hb.1 hb.2
    have h := hC l hl
    rw [hn l hl rfl] at h
    have h0 : μ.1 (11 + 15 * l) 0 = 0 := h
    rw [b01_t hb, if_neg (by decide), rR_nI hl (by decide), bi_some, if_pos h0]
  · rw [b01_f hb, if_pos rfl]
theorem isLog_some {μ : Mem} {L : Nat → Option LogD} {l : Nat} {g : LogD} (hC : ML μ L) (hw : WFg g) (hl : l < 3) (hL : L l = some g) : f_X10_isLog (nI l) μ = some (1, μ) := by
  have h := hC l hl
  rw [hL] at h
  have h0 : μ.1 1 l = nI (gN g) := h.1
  unfold f_X10_isLog
  rw [if_neg (nI_pos (by omega)), if_neg (show ¬ (3 : Int32) ≤ nI l from nI_ge hl (by decide)), rI_nI hl (by decide), bi_some, h0, if_neg (nI_nle (by have := hw.1; omega) (by have := hw.2.1; omega))]
theorem isLog_none {μ : Mem} {L : Nat → Option LogD} {v : Int32} (hC : ML μ L) (hn : ∀ l, l < 3 → v = nI l → L l = none) : f_X10_isLog v μ = some (0, μ) := by
  unfold f_X10_isLog
  rcases pk_ix v (n := 3) (by decide) with h | h | ⟨l, hl, rfl⟩
  · rw [if_pos h]
  · by_cases h0 : v < 0
    · rw [if_pos h0]
    · rw [if_neg h0, if_pos (show (3 : Int32) ≤ v from h)]
  · have h := hC l hl
    rw [hn l hl rfl] at h
    have h0 : μ.1 1 l = 0 := h
    rw [if_neg (nI_pos (by omega)), if_neg (show ¬ (3 : Int32) ≤ nI l from nI_ge hl (by decide)), rI_nI hl (by decide), bi_some, h0, if_pos (by decide)]
theorem doorAt_some {μ : Mem} {L : Nat → Option DoorD} {l : Nat} {g : DoorD} (hC : CD μ L) (hl : l < 8) (hL : L l = some g) : f_X8_doorAt (nI l) μ = some (some (56 + 4 * l), μ) := by
  have h := hC l hl
  rw [hL] at h
  have h0 : μ.1 (56 + 4 * l) 2 = 1 := h.1
  unfold f_X8_doorAt
  rw [isFrom_eq, bd_some, b01_t (show (0 : Int32) ≤ nI l ∧ nI l ≤ 7 from nI_btw hl (by decide)), if_neg (by decide), rR_nI hl (by decide), bi_some, h0, if_neg (by decide), bi_some]
theorem doorAt_none {μ : Mem} {L : Nat → Option DoorD} {v : Int32} (hC : CD μ L) (hn : ∀ l, l < 8 → v = nI l → L l = none) : f_X8_doorAt v μ = some (none, μ) := by
  unfold f_X8_doorAt
  rw [isFrom_eq, bd_some]
  by_cases hb : (0 : Int32) ≤ v ∧ v ≤ 7
  · obtain ⟨l, hl, rfl⟩ := btw_nI (n := 8) (by decide) (by decide) hb.1 hb.2
    have h := hC l hl
    rw [hn l hl rfl] at h
    have h0 : μ.1 (56 + 4 * l) 2 = 0 := h.1
    rw [b01_t hb, if_neg (by decide), rR_nI hl (by decide), bi_some, if_pos h0]
  · rw [b01_f hb, if_pos rfl]
theorem isDoor_some {μ : Mem} {L : Nat → Option DoorD} {l : Nat} {g : DoorD} (hC : MD μ L) (hw : WFd g) (hl : l < 8) (hL : L l = some g) : f_X10_isDoor (nI l) μ = some (1, μ) := by
  have h := hC l hl
  rw [hL] at h
  have h0 : μ.1 38 l = nI (dW g) := h.1
  unfold f_X10_isDoor
  rw [if_neg (nI_pos (by omega)), if_neg (show ¬ (8 : Int32) ≤ nI l from nI_ge hl (by decide)), rI_nI hl (by decide), bi_some, h0, if_neg (nI_nle (by have := hw.1; omega) (by have := hw.2.1; omega))]
theorem isDoor_none {μ : Mem} {L : Nat → Option DoorD} {v : Int32} (hC : MD μ L) (hn : ∀ l, l < 8 → v = nI l → L l = none) : f_X10_isDoor v μ = some (0, μ) := by
  unfold f_X10_isDoor
  rcases pk_ix v (n := 8) (by decide) with h | h | ⟨l, hl, rfl⟩
  · rw [if_pos h]
  · by_cases h0 : v < 0
    · rw [if_pos h0]
    · rw [if_neg h0, if_pos (show (8 : Int32) ≤ v from h)]
  · have h := hC l hl
    rw [hn l hl rfl] at h
    have h0 : μ.1 38 l = 0 := h.1
    rw [if_neg (nI_pos (by omega)), if_neg (show ¬ (8 : Int32) ≤ nI l from nI_ge hl (by decide)), rI_nI hl (by decide), bi_some, h0, if_pos (by decide)]
theorem step_fault {n : Nat} {μc μm : Mem} (S : Sim n μc μm) (v : Int32) : Both n (f_X9_fault v μc) (f_X10_fault v μm) := by
  obtain ⟨σ, hw, hc, hm⟩ := S
  have S : Sim n μc μm := ⟨σ, hw, hc, hm⟩
  have hc5 : CF μc (σF σ) := hc.2.2.2.2.1
  have hm5 : MF μm (σF σ) := hm.2.2.2.2.1
  unfold f_X9_fault f_X10_fault
  by_cases h0 : v = 0
  · rw [if_pos h0, if_pos h0]
    exact Both.keep S (nI (σF σ).1) (by rw [hc5.1]) (by rw [hm5.1])
  · rw [if_neg h0, if_neg h0]
    by_cases h1 : v = 1
    · rw [if_pos h1, if_pos h1]
      exact Both.keep S (iz (σF σ).2) (by rw [hc5.2]) (by rw [hm5.2])
    · rw [if_neg h1, if_neg h1]
      exact Both.keep S (-1) rfl rfl
theorem step_planned {n : Nat} {μc μm : Mem} (S : Sim n μc μm) (v : Int32) : Both n (f_X9_planned v μc) (f_X10_planned v μm) := by
  obtain ⟨σ, hw, hc, hm⟩ := S
  have S : Sim n μc μm := ⟨σ, hw, hc, hm⟩
  have hc6 : CP μc (σP σ) := hc.2.2.2.2.2
  have hm6 : MP μm (σP σ) := hm.2.2.2.2.2
  unfold f_X9_planned f_X10_planned
  rw [isFrom_eq, bd_some]
  by_cases hb : (0 : Int32) ≤ v ∧ v ≤ 7
  · obtain ⟨d, hd, rfl⟩ := btw_nI (n := 8) (by decide) (by decide) hb.1 hb.2
    rw [b01_t hb, if_neg (by decide), rI_nI hd (by decide), bi_some]
    refine Both.keep S (iz (σP σ d)) (by rw [hc6 d hd]) ?_
    rcases hm6 with ⟨h0, h1⟩ | ⟨h0, h1⟩
    · rw [if_pos h0, h1 d hd]; rfl
    · rw [if_neg (by rw [h0]; decide), if_neg (nI_pos (by omega)), if_neg (show ¬ (8 : Int32) ≤ nI d from nI_ge hd (by decide)), rI_nI hd (by decide), bi_some, h1 d hd]
  · rw [b01_f hb, if_pos rfl]
    refine Both.keep S (-1) rfl ?_
    by_cases h0 : μm.1 0 66 = 0
    · rw [if_pos h0]
    · rw [if_neg h0]
      by_cases h1 : v < 0
      · rw [if_pos h1]
      · rw [if_neg h1]
        by_cases h2 : (8 : Int32) ≤ v
        · rw [if_pos h2]
        · exfalso
          apply hb
          refine ⟨Int32.not_lt.mp h1, ?_⟩
          have h3 := Int32.not_le.mp h2
          rw [lt_toInt] at h3
          rw [le_toInt]
          have e1 : (8 : Int32).toInt = 8 := rfl
          have e2 : (7 : Int32).toInt = 7 := rfl
          omega
theorem RC_tape {σ : St} {μ : Mem} {n : Nat} {T : List Nat} {r : Mem} (hw : WF n σ) (hc : RC σ μ) (h1 : ∀ b, 3 ≤ b → r.1 b = μ.1 b) (h2 : r.2 = μ.2) (hT : CT2 r T) : RC (σL σ, σD σ, σS σ, T, σF σ, σP σ) r :=
  ⟨CL_of hw.1 (fun b h _ => h1 b (by omega)) (fun b _ _ => by rw [h2]) hc.1, CD_of (fun b h _ => h1 b (by omega)) hc.2.1, CS_of (fun b h _ => h1 b (by omega)) (fun b _ _ => by rw [h2]) hc.2.2.1, hT, CF_of (by rw [h1 3 (by omega)]) (by rw [h1 3 (by omega)]) hc.2.2.2.2.1, CP_of (h1 89 (by omega)) hc.2.2.2.2.2⟩
theorem RM_tape {σ : St} {μ : Mem} {T : List Nat} {r : Mem} (hm : RM σ μ) (h1 : ∀ b, 1 ≤ b → b ≠ 24 → r.1 b = μ.1 b) (h2 : ∀ j, j ≠ 25 → r.1 0 j = μ.1 0 j) (hT : MT r T) : RM (σL σ, σD σ, σS σ, T, σF σ, σP σ) r :=
  ⟨ML_of (fun b h _ => h1 b (by omega) (by omega)) hm.1, MD_of (fun b h _ => h1 b (by omega) (by omega)) hm.2.1, MS_of (h2 15 (by omega)) (fun b h _ => h1 b (by omega) (by omega)) hm.2.2.1, hT, MF_of (h2 30 (by omega)) (h2 31 (by omega)) hm.2.2.2.2.1, MP_of (h2 66 (by omega)) (h1 49 (by omega) (by omega)) hm.2.2.2.2.2⟩
theorem WF_tape {σ : St} {n : Nat} {T : List Nat} (hw : WF n σ) (h1 : T.length ≤ 400) (h2 : ∀ b ∈ T, b < 256) : WF (n + 1) (σL σ, σD σ, σS σ, T, σF σ, σP σ) := by
  obtain ⟨w1, w2, w3, w4, w5, w6, w7, w8, w9⟩ := hw.mono
  exact ⟨w1, w2, w3, w4, w5, w6, h1, h2, w9⟩
theorem step_end {n : Nat} {μc μm : Mem} (S : Sim n μc μm) (v : Int32) : Both n (f_X9_end v μc) (f_X10_end v μm) := by
  obtain ⟨σ, hw, hc, hm⟩ := S
  have S : Sim n μc μm := ⟨σ, hw, hc, hm⟩
  have hc4 : CT2 μc (σT σ) := hc.2.2.2.1
  have hm4 : MT μm (σT σ) := hm.2.2.2.1
  have hlen : (σT σ).length ≤ 400 := hw.2.2.2.2.2.2.1
  unfold f_X9_end f_X10_end f_X7_shorten
  rw [isFrom_eq, bd_some, hc4.1, hm4.1]
  by_cases hb : (0 : Int32) ≤ v ∧ v ≤ nI (σT σ).length
  · obtain ⟨j, hj, rfl⟩ := nI_rng hb.1 (by have := hb.2; rw [le_toInt, nI_toInt (by omega)] at this; exact this)
    rw [b01_t hb, if_neg (by decide), if_neg (nI_pos (by omega)), if_pos hb.2]
    refine ⟨1, sI μc 1 1 (nI j), sI μm 0 25 (nI j), rfl, rfl, (σL σ, σD σ, σS σ, (σT σ).take j, σF σ, σP σ), ?_, ?_, ?_⟩
    · exact WF_tape hw (by rw [List.length_take]; omega) (fun b hb => hw.2.2.2.2.2.2.2.1 b (List.mem_of_mem_take hb))
    · refine RC_tape hw hc (fun b hb => sI_pl (by omega)) rfl ⟨?_, fun k b hk => ?_⟩
      · rw [sI_same, List.length_take, Nat.min_eq_left hj]
      · rw [sI_pl (by omega)]
        rw [List.getElem?_take] at hk
        by_cases hkj : k < j
        · rw [if_pos hkj] at hk; exact hc4.2 k b hk
        · rw [if_neg hkj] at hk; cases hk
    · refine RM_tape hm (fun b hb _ => sI_pl (by omega)) (fun i hi => sI_sl hi) ⟨?_, fun k b hk => ?_⟩
      · rw [sI_same, List.length_take, Nat.min_eq_left hj]
      · rw [sI_pl (by omega)]
        rw [List.getElem?_take] at hk
        by_cases hkj : k < j
        · rw [if_pos hkj] at hk; exact hm4.2 k b hk
        · rw [if_neg hkj] at hk; cases hk
  · rw [b01_f hb, if_pos rfl]
    refine Both.keep S 0 rfl ?_
    by_cases h0 : v < 0
    · rw [if_pos h0]
    · rw [if_neg h0, if_neg (fun q => hb ⟨Int32.not_lt.mp h0, q⟩)]
