/-! door: the class's reader -/
theorem bz_0 {μ : Mem} : bz 0 μ = some (0, μ) := by have := bz_b01 (p := False) (μ := μ); exact this
theorem bz_1 {μ : Mem} : bz 1 μ = some (1, μ) := by have := bz_b01 (p := True) (μ := μ); exact this
def byv (T : List Nat) (q : Nat) : Int32 := if bq T q = 256 then -1 else nI (bq T q)
theorem bq_rng {T : List Nat} (hT : ∀ b ∈ T, b < 256) (q : Nat) : bq T q ≤ 256 := by
  unfold bq
  cases h : T[q]? with
  | none => exact Nat.le_refl _
  | some b => exact Nat.le_of_lt (hT b (List.mem_of_getElem? h))
theorem byv_eq {T : List Nat} (hT : ∀ b ∈ T, b < 256) {q c : Nat} (hc : c < 256) : byv T q = nI c ↔ bq T q = c := by
  have := bq_rng hT q
  unfold byv
  by_cases h : bq T q = 256
  · rw [if_pos h, h]
    constructor
    · intro z
      rw [show (-1 : Int32) = iz (-1) by decide, iz_nat] at z
      have := (iz_eq (by omega) (by omega) (by omega) (by omega)).mp z
      omega
    · intro z; omega
  · rw [if_neg h, iz_nat, iz_nat, iz_eq (by omega) (by omega) (by omega) (by omega)]
    omega
theorem byv_none {T : List Nat} (hT : ∀ b ∈ T, b < 256) {q : Nat} : byv T q = -1 ↔ bq T q = 256 := by
  have := bq_rng hT q
  unfold byv
  by_cases h : bq T q = 256
  · rw [if_pos h]; exact ⟨fun _ => h, fun _ => rfl⟩
  · rw [if_neg h]
    constructor
    · intro z
      rw [show (-1 : Int32) = iz (-1) by decide, iz_nat] at z
      have := (iz_eq (by omega) (by omega) (by omega) (by omega)).mp z
      omega
    · intro z; exact absurd z h
theorem byv_rng {T : List Nat} (hT : ∀ b ∈ T, b < 256) {q a b : Nat} (ha : a < 256) (hb : b < 256) : (nI a ≤ byv T q ∧ byv T q ≤ nI b) ↔ (a ≤ bq T q ∧ bq T q ≤ b) := by
  have := bq_rng hT q
  unfold byv
  by_cases h : bq T q = 256
  · rw [if_pos h, h]
    constructor
    · intro z
      have z1 := z.1
      rw [show (-1 : Int32) = iz (-1) by decide, iz_nat, iz_le (by omega) (by omega) (by omega) (by omega)] at z1; omega
    · intro z; omega
  · rw [if_neg h, iz_nat, iz_nat, iz_nat, iz_le (by omega) (by omega) (by omega) (by omega), iz_le (by omega) (by omega) (by omega) (by omega)]; omega
/-- a tape in the class's memory -/
def tpC (μ : Mem) (T : List Nat) : Prop := CT2 μ T ∧ T.length ≤ 400 ∧ ∀ b ∈ T, b < 256
theorem byteC {μ : Mem} {T : List Nat} {p : Nat} (ht : tpC μ T) (hp : p ≤ 400) : f_X7_byteAt (nI p) μ = some (byv T p, μ) := by
  obtain ⟨⟨h1, h2⟩, h3, h4⟩ := ht
  unfold f_X7_byteAt
  have c0 : ¬ nI p < (0 : Int32) := by rw [iz0, iz_nat, iz_lt (by omega) (by omega) (by omega) (by omega)]; omega
  have c : nI T.length ≤ nI p ↔ T.length ≤ p := by rw [iz_nat, iz_nat, iz_le (by omega) (by omega) (by omega) (by omega)]; omega
  rw [if_neg c0, h1]
  by_cases h : p < T.length
  · obtain ⟨b, hb⟩ : ∃ b, T[p]? = some b := ⟨_, List.getElem?_eq_getElem h⟩
    have e : bq T p = b := by unfold bq; rw [hb]
    have hb2 := h4 b (List.mem_of_getElem? hb)
    rw [if_neg (fun z => by have := c.mp z; omega), rI_nI (by omega) (by decide), bi_some, h2 p b hb]
    unfold byv
    rw [e, if_neg (by omega)]
  · have e : bq T p = 256 := by unfold bq; rw [List.getElem?_eq_none (by omega)]
    rw [if_pos (c.mpr (by omega))]
    unfold byv
    rw [if_pos e]
def frN (μ r : Mem) : Prop := (∀ b, b ≠ 3 → r.1 b = μ.1 b) ∧ (∀ j, j ≠ 4 → r.1 3 j = μ.1 3 j) ∧ r.2 = μ.2
theorem frN.rf {μ : Mem} : frN μ μ := ⟨fun _ _ => rfl, fun _ _ => rfl, rfl⟩
theorem frN.tr {a b c : Mem} (h1 : frN a b) (h2 : frN b c) : frN a c := ⟨fun q p => (h2.1 q p).trans (h1.1 q p), fun q p => (h2.2.1 q p).trans (h1.2.1 q p), h2.2.2.trans h1.2.2⟩
theorem frN_at {μ : Mem} {v : Int32} : frN μ (sI μ 3 4 v) := ⟨fun _ h => sI_pl h, fun _ h => sI_sl h, rfl⟩
theorem tp_N {μ r : Mem} {T : List Nat} (h : tpC μ T) (f : frN μ r) : tpC r T := ⟨CT2_of (by rw [f.1 1 (by decide)]) (f.1 2 (by decide)) h.1, h.2⟩
theorem nxt_L {T : List Nat} {K : Mem → Option (Int32 × Mem)} : ∀ (m n p : Nat) (μ : Mem), tpC μ T → μ.1 3 4 = nI p → p ≤ T.length → m < n → T.length ≤ p + m → ∃ r, f_X6_nextByte_L0 K n μ = K r ∧ r.1 3 4 = nI (nxF T m p) ∧ frN μ r := by
  intro m
  induction m with
  | zero =>
    intro n p μ ht h4 hp hn hm
    obtain ⟨n', rfl⟩ : ∃ n', n = n' + 1 := ⟨n - 1, by omega⟩
    have := ht.2.1
    exact ⟨μ, by rw [f_X6_nextByte_L0, ht.1.1, h4, if_pos (nI_le (by omega) (by omega))], h4, frN.rf⟩
  | succ m ih =>
    intro n p μ ht h4 hp hn hm
    obtain ⟨n', rfl⟩ : ∃ n', n = n' + 1 := ⟨n - 1, by omega⟩
    have hl := ht.2.1
    have hb := ht.2.2
    by_cases hpl : T.length ≤ p
    · have e : nxF T (m + 1) p = p := by
        have hnone : T[p]? = none := List.getElem?_eq_none (by omega)
        show (if T[p]? = some 10 ∨ T[p]? = some 32 then nxF T m (p + 1) else p) = p
        rw [if_neg (by rw [hnone]; rintro (z | z) <;> cases z)]
      rw [e]
      exact ⟨μ, by rw [f_X6_nextByte_L0, ht.1.1, h4, if_pos (nI_le (by omega) (by omega))], h4, frN.rf⟩
    · rw [f_X6_nextByte_L0, ht.1.1, h4, if_neg (nI_ge (by omega) (by omega)), byteC ht (by omega), bd_some]
      have c1 : byv T p = (10 : Int32) ↔ T[p]? = some 10 := by
        rw [show (10 : Int32) = nI 10 from rfl, byv_eq hb (by decide)]
        unfold bq
        obtain ⟨b, hb2⟩ : ∃ b, T[p]? = some b := ⟨_, List.getElem?_eq_getElem (by omega)⟩
        rw [hb2]; simp
      have c2 : byv T p = (32 : Int32) ↔ T[p]? = some 32 := by
        rw [show (32 : Int32) = nI 32 from rfl, byv_eq hb (by decide)]
        unfold bq
        obtain ⟨b, hb2⟩ : ∃ b, T[p]? = some b := ⟨_, List.getElem?_eq_getElem (by omega)⟩
        rw [hb2]; simp
      have go : T[p]? = some 10 ∨ T[p]? = some 32 → ∃ r, f_X6_nextByte_L0 K n' (sI μ 3 4 (nI p + 1)) = K r ∧ r.1 3 4 = nI (nxF T (m + 1) p) ∧ frN μ r := by
        intro h
        have e : nxF T (m + 1) p = nxF T m (p + 1) := if_pos h
        rw [e, nI_s]
        obtain ⟨r, e1, e2, e3⟩ := ih n' (p + 1) (sI μ 3 4 (nI (p + 1))) (tp_N ht frN_at) (sI_same _ _ _ _) (by omega) (by omega) (by omega)
        exact ⟨r, e1, e2, frN.tr frN_at e3⟩
      unfold f_X6_isBlank
      by_cases h1 : T[p]? = some 10
      · rw [if_pos (c1.mpr h1), bd_some, if_neg (show ¬ (1 : Int32) = 0 by decide), h4]
        exact go (Or.inl h1)
      · rw [if_neg (fun z => h1 (c1.mp z))]
        by_cases h2 : T[p]? = some 32
        · rw [if_pos (c2.mpr h2), bd_some, if_neg (show ¬ (1 : Int32) = 0 by decide), h4]
          exact go (Or.inr h2)
        · have e : nxF T (m + 1) p = p := if_neg (by rintro (z | z); exact h1 z; exact h2 z)
          rw [if_neg (fun z => h2 (c2.mp z)), bd_some, if_pos rfl, e]
          exact ⟨μ, rfl, h4, frN.rf⟩
theorem nextC {μ : Mem} {T : List Nat} {p : Nat} (ht : tpC μ T) (h4 : μ.1 3 4 = nI p) (hp : p ≤ T.length) : ∃ r, f_X6_nextByte μ = some (byv T (nx T p), r) ∧ r.1 3 4 = nI (nx T p) ∧ frN μ r := by
  have hl := ht.2.1
  have hn := nx_le hp
  obtain ⟨r, e, e4, f⟩ := nxt_L (K := fun μ7 => bd (f_X7_byteAt (μ7.1 3 4) μ7) (fun r9 μ8 => (some (r9, μ8)))) T.length FU p μ ht h4 hp (show T.length < 8192 by omega) (by omega)
  unfold f_X6_nextByte
  have e4' : r.1 3 4 = nI (nx T p) := e4
  refine ⟨r, ?_, e4', f⟩
  rw [e, e4', byteC (tp_N ht f) (by omega), bd_some]
