/-! the pure layer: numbers, memory, and how the class's memory and the model's stand to each other -/
theorem sI_at (μ : Mem) (a j : Nat) (v : Int32) (b i : Nat) : (sI μ a j v).1 b i = if b = a ∧ i = j then v else μ.1 b i := rfl
theorem sI_same (μ : Mem) (a j : Nat) (v : Int32) : (sI μ a j v).1 a j = v := by rw [sI_at, if_pos ⟨rfl, rfl⟩]
theorem sI_pl {μ : Mem} {a j : Nat} {v : Int32} {b : Nat} (h : b ≠ a) : (sI μ a j v).1 b = μ.1 b := up2_ne h
theorem sI_sl {μ : Mem} {a j : Nat} {v : Int32} {b i : Nat} (h : i ≠ j) : (sI μ a j v).1 b i = μ.1 b i := by rw [sI_at, if_neg (fun q => h q.2)]
theorem sI_2 {μ : Mem} {a j : Nat} {v : Int32} : (sI μ a j v).2 = μ.2 := rfl
theorem sI_row {μ : Mem} {a j : Nat} {v : Int32} : (sI μ a j v).1 a = upd (μ.1 a) j v := by funext i; simp [sI, up2, upd]
theorem sJ_1 {μ : Mem} {a j : Nat} {v : Int64} : (sJ μ a j v).1 = μ.1 := rfl
theorem sJ_pl {μ : Mem} {a j : Nat} {v : Int64} {b : Nat} (h : b ≠ a) : (sJ μ a j v).2 b = μ.2 b := up2_ne h
theorem sJ_at (μ : Mem) (a j : Nat) (v : Int64) (b i : Nat) : (sJ μ a j v).2 b i = if b = a ∧ i = j then v else μ.2 b i := rfl
theorem sJ_sl {μ : Mem} {a j : Nat} {v : Int64} {b i : Nat} (h : i ≠ j) : (sJ μ a j v).2 b i = μ.2 b i := by rw [sJ_at, if_neg (fun q => h q.2)]
theorem sJ_same (μ : Mem) (a j : Nat) (v : Int64) : (sJ μ a j v).2 a j = v := by rw [sJ_at, if_pos ⟨rfl, rfl⟩]
theorem inb_nI {j n : Nat} (h : j < n) (hn : n < 2 ^ 31) : inb (nI j) n = true := inb_of (vp_in_nI h hn)
theorem rI_nI {μ : Mem} {n a j : Nat} (h : j < n) (hn : n < 2 ^ 31) : rI μ n a (nI j) = some (μ.1 a j) := by
  unfold rI; rw [if_pos (inb_nI h hn), nI_clamp (by omega)]
theorem wI_nI {μ : Mem} {n a j : Nat} {v : Int32} (h : j < n) (hn : n < 2 ^ 31) : wI μ n a (nI j) v = some (sI μ a j v) := by
  unfold wI; rw [if_pos (inb_nI h hn), nI_clamp (by omega)]
theorem rJ_nI {μ : Mem} {n a j : Nat} (h : j < n) (hn : n < 2 ^ 31) : rJ μ n a (nI j) = some (μ.2 a j) := by
  unfold rJ; rw [if_pos (inb_nI h hn), nI_clamp (by omega)]
theorem wJ_nI {μ : Mem} {n a j : Nat} {v : Int64} (h : j < n) (hn : n < 2 ^ 31) : wJ μ n a (nI j) v = some (sJ μ a j v) := by
  unfold wJ; rw [if_pos (inb_nI h hn), nI_clamp (by omega)]
theorem rR_nI {n j : Nat} (h : j < n) (hn : n < 2 ^ 31) : rR n (nI j) = some j := by
  unfold rR; rw [if_pos (inb_nI h hn), nI_clamp (by omega)]
theorem bd_some {α β : Type} {v : α} {m : Mem} {f : α → Mem → Option β} : bd (some (v, m)) f = f v m := rfl
theorem bi_some {α β : Type} {v : α} {f : α → Option β} : (some v).bind f = f v := rfl
/-- a truth as Java's 0 and 1 -/
def b01 (p : Prop) [Decidable p] : Int32 := if p then 1 else 0
theorem b01_0 {p : Prop} [Decidable p] : b01 p = 0 ↔ ¬ p := by unfold b01; by_cases h : p <;> simp [h]
theorem b01_t {p : Prop} [Decidable p] (h : p) : b01 p = 1 := if_pos h
theorem b01_f {p : Prop} [Decidable p] (h : ¬ p) : b01 p = 0 := if_neg h
theorem bz_b01 {p : Prop} [Decidable p] {μ : Mem} : bz (b01 p) μ = some (b01 p, μ) := by unfold bz b01; by_cases h : p <;> simp [h]
theorem isFrom_eq (v a b : Int32) (μ : Mem) : f_X9_isFrom v a b μ = some (b01 (a ≤ v ∧ v ≤ b), μ) := by
  unfold f_X9_isFrom b01
  by_cases h1 : v < a
  · rw [if_pos h1, if_neg (fun q => Int32.not_le.mpr h1 q.1)]
  · rw [if_neg h1]
    by_cases h2 : b < v
    · rw [if_pos h2, if_neg (fun q => Int32.not_le.mpr h2 q.2)]
    · rw [if_neg h2, if_pos ⟨Int32.not_lt.mp h1, Int32.not_lt.mp h2⟩]
theorem isIn_eq (v a b : Int32) (μ : Mem) : f_X10_isIn v a b μ = some (b01 (a ≤ v ∧ v ≤ b), μ) := by
  unfold f_X10_isIn b01
  by_cases h1 : v < a
  · rw [if_pos h1, if_neg (fun q => Int32.not_le.mpr h1 q.1)]
  · rw [if_neg h1]
    by_cases h2 : b < v
    · rw [if_pos h2, if_neg (fun q => Int32.not_le.mpr h2 q.2)]
    · rw [if_neg h2, if_pos ⟨Int32.not_lt.mp h1, Int32.not_lt.mp h2⟩]
theorem le_toInt {a b : Int32} : a ≤ b ↔ a.toInt ≤ b.toInt := Int32.le_iff_toInt_le
theorem lt_toInt {a b : Int32} : a < b ↔ a.toInt < b.toInt := Int32.lt_iff_toInt_lt
theorem nI_rng {x : Int32} {n : Nat} (h0 : 0 ≤ x) (h : x.toInt ≤ n) : ∃ j, j ≤ n ∧ x = nI j := by
  obtain ⟨j, hj, e⟩ := nI_of (x := x) (Int32.not_lt.mpr h0)
  refine ⟨j, ?_, e⟩
  rw [e, nI_toInt hj] at h
  omega
