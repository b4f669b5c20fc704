/-! pieces and joints: the steps of piece and joint -/
theorem has_eq {μ : Mem} {a W H : Nat} {v w : Int32} (h1 : μ.1 a 1 = nI W) (h2 : μ.1 a 2 = nI H) : f_X1_has a v w μ = some (b01 ((0 ≤ v ∧ v ≤ nI W - 1) ∧ (0 ≤ w ∧ w ≤ nI H - 1)), μ) := by
  unfold f_X1_has
  rw [h1, isFrom_eq, bd_some]
  by_cases p : (0 : Int32) ≤ v ∧ v ≤ nI W - 1
  · rw [b01_t p, if_neg (by decide), h2, isFrom_eq, bd_some]
    by_cases q : (0 : Int32) ≤ w ∧ w ≤ nI H - 1
    · rw [b01_t q, if_neg (by decide), b01_t ⟨p, q⟩]
    · rw [b01_f q, if_pos rfl, b01_f (fun z => q z.2)]
  · rw [b01_f p, if_pos rfl, b01_f (fun z => p z.1)]
/-- is a number a place of a row of n (n at least 1)? -/
theorem bt1 {v : Int32} {n : Nat} (hn : 1 ≤ n) (hn2 : n < 2 ^ 31) : (0 ≤ v ∧ v ≤ nI n - 1) ↔ ∃ c, c < n ∧ v = nI c := by
  obtain ⟨k, rfl⟩ : ∃ k, n = k + 1 := ⟨n - 1, by omega⟩
  rw [nI_pred]
  constructor
  · intro h
    obtain ⟨c, hc, e⟩ := nI_rng (n := k) h.1 (by have := h.2; rw [le_toInt, nI_toInt (by omega)] at this; exact this)
    exact ⟨c, by omega, e⟩
  · rintro ⟨c, hc, rfl⟩
    exact ⟨nI_pos' (by omega), nI_le (by omega) (by omega)⟩
theorem cellAt_eq {μ : Mem} {a c r : Nat} (hc : c < 8) (hr : r < 8) : f_X1_cellAt a (nI c) (nI r) μ = some (μ.1 (a + 1) (8 * r + c), μ) := by
  unfold f_X1_cellAt
  rw [if_neg (nI_pos (by omega)), if_neg (show ¬ (8 : Int32) ≤ nI c from nI_ge hc (by decide)), if_neg (nI_pos (by omega)), if_neg (show ¬ (8 : Int32) ≤ nI r from nI_ge hr (by decide))]
  have e : nI r * 8 + nI c = nI (8 * r + c) := by
    rw [show (8 : Int32) = nI 8 from rfl, pk_mul, nI_add, Nat.mul_comm]
  rw [e, rI_nI (by omega) (by decide), bi_some]
theorem pieceOf_eq {μ : Mem} {d c r : Nat} (hd : d < 8) (hc : c < 8) (hr : r < 8) : f_X10_pieceOf (nI d) (nI c) (nI r) μ = some (μ.1 40 (64 * d + 8 * r + c), μ) := by
  unfold f_X10_pieceOf
  have e : (64 : Int32) * nI d + 8 * nI r + nI c = nI (64 * d + 8 * r + c) := by
    rw [show (64 : Int32) = nI 64 from rfl, show (8 : Int32) = nI 8 from rfl, pk_mul, pk_mul, nI_add, nI_add]
  rw [e, rI_nI (by omega) (by decide), bi_some]
theorem step_piece {n : Nat} {μc μm : Mem} (S : Sim n μc μm) (v1 v2 v3 : Int32) : Both n (f_X9_piece v1 v2 v3 μc) (f_X10_piece v1 v2 v3 μm) := by
  obtain ⟨σ, hw, hc, hm⟩ := S
  have S : Sim n μc μm := ⟨σ, hw, hc, hm⟩
  unfold f_X9_piece f_X10_piece
  rcases names v1 (σD σ) 8 with ⟨d, D, hd, rfl, hD⟩ | hn
  · have wd := (hw.2.1 d D hD).2
    have cd : Cd μc (56 + 4 * d) D := by have := hc.2.1 d hd; rw [hD] at this; exact this
    have md : Md μm d D := by have := hm.2.1 d hd; rw [hD] at this; exact this
    obtain ⟨w1, w2, w3, w4, w5, -⟩ := wd
    rw [doorAt_some hc.2.1 hd hD, isDoor_some hm.2.1 (hw.2.1 d D hD).2 hd hD, bd_some, bd_some, oc_some, if_neg (by decide), has_eq cd.2.1 cd.2.2.1, bd_some]
    rw [rI_nI hd (by decide), rI_nI hd (by decide), bi_some, bi_some, md.1, md.2.1]
    by_cases p : ∃ c, c < dW D ∧ v2 = nI c
    · obtain ⟨c, hc2, rfl⟩ := p
      by_cases q : ∃ r, r < dH D ∧ v3 = nI r
      · obtain ⟨r, hr, rfl⟩ := q
        rw [b01_t ⟨(bt1 w1 (by omega)).mpr ⟨c, hc2, rfl⟩, (bt1 w3 (by omega)).mpr ⟨r, hr, rfl⟩⟩, if_neg (by decide), cellAt_eq (by omega) (by omega), bd_some, if_neg (nI_pos (by omega)), if_neg (nI_ge hc2 (by omega)), if_neg (nI_pos (by omega)), if_neg (nI_ge hr (by omega)), pieceOf_eq hd (by omega) (by omega), bd_some]
        exact Both.keep S (nI (dC D c r)) (by rw [cd.2.2.2.1 c r hc2 hr]) (by rw [md.2.2.1 c r hc2 hr])
      · rw [b01_f (fun z => q ((bt1 w3 (by omega)).mp z.2)), if_pos rfl, if_neg (nI_pos (by omega)), if_neg (nI_ge hc2 (by omega))]
        refine Both.keep S (-1) rfl ?_
        rcases pk_ix v3 (n := dH D) (by omega) with h | h | h
        · rw [if_pos h]
        · by_cases h0 : v3 < 0
          · rw [if_pos h0]
          · rw [if_neg h0, if_pos h]
        · exact absurd h q
    · rw [b01_f (fun z => p ((bt1 w1 (by omega)).mp z.1)), if_pos rfl]
      refine Both.keep S (-1) rfl ?_
      rcases pk_ix v2 (n := dW D) (by omega) with h | h | h
      · rw [if_pos h]
      · by_cases h0 : v2 < 0
        · rw [if_pos h0]
        · rw [if_neg h0, if_pos h]
      · exact absurd h p
  · rw [doorAt_none hc.2.1 hn, isDoor_none hm.2.1 hn, bd_some, bd_some]
    exact Both.keep S (-1) rfl rfl
/-- the joint of two pieces' numbers, beside each other (down 0) or below -/
def jv (a b down : Int32) : Int32 :=
  if down = 0 then (if ((b &&& 15) - (a &&& 15) = 1 ∨ (b &&& 15) - (a &&& 15) = -1) ∧ ((a ^^^ b) &&& 32) = 0 then (if ((a ^^^ b) &&& 16) = 0 then (if (b &&& 15) - (a &&& 15) = (if (a &&& 16) = 0 then 1 else -1) then 1 else 0) else 2) else 0)
  else (if ((b &&& 15) - (a &&& 15) = 1 ∨ (b &&& 15) - (a &&& 15) = -1) ∧ ((a ^^^ b) &&& 16) = 0 ∧ ¬ ((a ^^^ b) &&& 32) = 0 then 2 else 0)
theorem iAbs_1 (x : Int32) : iAbs x = 1 ↔ x = 1 ∨ x = -1 := by
  unfold iAbs
  constructor
  · intro h
    split at h
    · exact Or.inl h
    · right
      have e : -x = 1 := by rwa [Int32.zero_sub] at h
      rw [← Int32.neg_neg (a := x), e]
  · rintro (h | h) <;> rw [h] <;> decide
theorem beside_eq (a b : Int32) (μ : Mem) : f_X1_jointBeside a b μ = some (jv a b 0, μ) := by
  unfold f_X1_jointBeside f_X1_differ jv
  rw [if_pos rfl]
  simp only [iAbs_1]
  by_cases h1 : (b &&& 15) - (a &&& 15) = 1
  · have hm : ¬ (1 : Int32) = -1 := by decide
    by_cases h2 : ((a ^^^ b) &&& 32) = 0 <;> by_cases h3 : ((a ^^^ b) &&& 16) = 0 <;> by_cases h4 : (a &&& 16) = 0 <;> simp [h1, h2, h3, h4, hm, bd]
  · by_cases h5 : (b &&& 15) - (a &&& 15) = -1
    · have hm : ¬ (-1 : Int32) = 1 := by decide
      by_cases h2 : ((a ^^^ b) &&& 32) = 0 <;> by_cases h3 : ((a ^^^ b) &&& 16) = 0 <;> by_cases h4 : (a &&& 16) = 0 <;> simp [h5, h2, h3, h4, hm, bd]
    · simp [h1, h5]
theorem below_eq (a b down : Int32) (hd : ¬ down = 0) (μ : Mem) : f_X1_jointBelow a b μ = some (jv a b down, μ) := by
  unfold f_X1_jointBelow f_X1_differ jv
  rw [if_neg hd]
  simp only [iAbs_1]
  by_cases h1 : (b &&& 15) - (a &&& 15) = 1 ∨ (b &&& 15) - (a &&& 15) = -1
  · by_cases h2 : ((a ^^^ b) &&& 32) = 0 <;> by_cases h3 : ((a ^^^ b) &&& 16) = 0 <;> simp [h1, h2, h3, bd]
  · simp [h1]
theorem jointOf_eq (a b down : Int32) (μ : Mem) : f_X10_jointOf a b down μ = some (jv a b down, μ) := by
  unfold f_X10_jointOf jv
  have hm : ¬ (1 : Int32) = -1 := by decide
  have hm2 : ¬ (-1 : Int32) = 1 := by decide
  by_cases h1 : (b &&& 15) - (a &&& 15) = 1
  · by_cases hd : down = 0 <;> by_cases h2 : ((a ^^^ b) &&& 32) = 0 <;> by_cases h3 : ((a ^^^ b) &&& 16) = 0 <;> by_cases h4 : (a &&& 16) = 0 <;> simp [h1, h2, h3, h4, hm, hd]
  · by_cases h5 : (b &&& 15) - (a &&& 15) = -1
    · by_cases hd : down = 0 <;> by_cases h2 : ((a ^^^ b) &&& 32) = 0 <;> by_cases h3 : ((a ^^^ b) &&& 16) = 0 <;> by_cases h4 : (a &&& 16) = 0 <;> simp [h5, h2, h3, h4, hm2, hd]
    · by_cases hd : down = 0 <;> simp [h1, h5, hd]
