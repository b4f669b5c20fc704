/-! two drawings compared: the model's side; the step of same -/
theorem copyP {v1 v2 v3 : Int32} {d : Nat} {K : Mem → Option (Int32 × Mem)} (hd : d < 8) (hv : v2 = nI d) : ∀ (m n k : Nat) (μ : Mem), k + m = 64 → m < n → ∃ r, f_X10_same_L82 v1 v2 v3 K n (nI k) μ = K r ∧ (∀ b, b ≠ 25 → r.1 b = μ.1 b) ∧ (∀ j, k ≤ j → j < 64 → r.1 25 j = μ.1 40 (64 * d + j)) ∧ (∀ j, j < k → r.1 25 j = μ.1 25 j) := by
  intro m
  induction m with
  | zero =>
    intro n k μ hk hn
    obtain ⟨n', rfl⟩ : ∃ n', n = n' + 1 := ⟨n - 1, by omega⟩
    have : k = 64 := by omega
    subst this
    exact ⟨μ, by rw [f_X10_same_L82, if_pos (by decide)], fun _ _ => rfl, fun j h1 h2 => by omega, fun _ _ => rfl⟩
  | succ m ih =>
    intro n k μ hk hn
    obtain ⟨n', rfl⟩ : ∃ n', n = n' + 1 := ⟨n - 1, by omega⟩
    have ei : (64 : Int32) * v2 + nI k = nI (64 * d + k) := by rw [hv, show (64 : Int32) = nI 64 from rfl, pk_mul, nI_add]
    obtain ⟨r, e, r1, r2, r3⟩ := ih n' (k + 1) (sI μ 25 k (μ.1 40 (64 * d + k))) (by omega) (by omega)
    refine ⟨r, ?_, fun b hb => by rw [r1 b hb, sI_pl hb], fun j h1 h2 => ?_, fun j hj => by rw [r3 j (by omega), sI_sl (by omega)]⟩
    · rw [f_X10_same_L82, if_neg (show ¬ (64 : Int32) ≤ nI k from nI_ge (show k < 64 by omega) (by decide)), ei, rI_nI (by omega) (by decide), bi_some, wI_nI (by omega) (by decide), bi_some, nI_s, e]
    · by_cases hj : j = k
      · subst hj; rw [r3 j (by omega), sI_same]
      · rw [r2 j (by omega) h2, sI_pl (by decide)]
theorem cmp_in {μ : Mem} {d W r : Nat} {D E : DoorD} {v2 v3 v4 : Int32} {K : Mem → Option (Int32 × Mem)} (hd : d < 8) (wd : WFd D) (hcell : ∀ c r, c < dW D → r < dH D → μ.1 40 (64 * d + 8 * r + c) = nI (dC D c r)) (hpart : ∀ c r, c < dW D → r < dH D → μ.1 25 (8 * r + c) = nI (dC E (mir v2 (dW D) c) (mir v3 (dH D) r)) ^^^ v4) (h32 : μ.1 0 32 = nI (dW D)) (hr : r < dH D) : ∀ (m n c : Nat), c + m = dW D → m < n → f_X10_same_L148 (nI d) (nI r) K n (nI c) μ = if rowB D E v2 v3 v4 r m c = true then K μ else some (0, μ) := by
  obtain ⟨w1, w2, w3, w4, -⟩ := wd
  intro m
  induction m with
  | zero =>
    intro n c hc hn
    obtain ⟨n', rfl⟩ : ∃ n', n = n' + 1 := ⟨n - 1, by omega⟩
    rw [f_X10_same_L148, h32, if_pos (nI_le (by omega) (by omega))]; rfl
  | succ m ih =>
    intro n c hc hn
    obtain ⟨n', rfl⟩ : ∃ n', n = n' + 1 := ⟨n - 1, by omega⟩
    have hcW : c < dW D := by omega
    have ei : (8 : Int32) * nI r + nI c = nI (8 * r + c) := by rw [show (8 : Int32) = nI 8 from rfl, pk_mul, nI_add]
    rw [f_X10_same_L148, h32, if_neg (nI_ge hcW (by omega)), ei, rI_nI (by omega) (by decide), bi_some, pieceOf_eq hd (by omega) (by omega), bd_some, hcell c r hcW hr, hpart c r hcW hr]
    show _ = if (likeB D E v2 v3 v4 c r && rowB D E v2 v3 v4 r m (c + 1)) = true then K μ else some (0, μ)
    by_cases h : nI (dC D c r) = nI (dC E (mir v2 (dW D) c) (mir v3 (dH D) r)) ^^^ v4
    · have hb : likeB D E v2 v3 v4 c r = true := decide_eq_true h
      rw [if_pos h.symm, nI_s, ih n' (c + 1) (by omega) (by omega), hb, Bool.true_and]
    · have hb : likeB D E v2 v3 v4 c r = false := decide_eq_false h
      rw [if_neg (fun q => h q.symm), hb, Bool.false_and, if_neg (by decide)]
theorem cmp_out {μ : Mem} {d : Nat} {D E : DoorD} {v2 v3 v4 : Int32} (hd : d < 8) (wd : WFd D) (hcell : ∀ c r, c < dW D → r < dH D → μ.1 40 (64 * d + 8 * r + c) = nI (dC D c r)) (hpart : ∀ c r, c < dW D → r < dH D → μ.1 25 (8 * r + c) = nI (dC E (mir v2 (dW D) c) (mir v3 (dH D) r)) ^^^ v4) (h32 : μ.1 0 32 = nI (dW D)) (h33 : μ.1 0 33 = nI (dH D)) : ∀ (m n r : Nat), r + m = dH D → m < n → f_X10_same_L136 (nI d) (fun μ29 => some ((1 : Int32), μ29)) n (nI r) μ = some (b01 (allB D E v2 v3 v4 m r = true), μ) := by
  have w := wd
  obtain ⟨w1, w2, w3, w4, -⟩ := w
  intro m
  induction m with
  | zero =>
    intro n r hr hn
    obtain ⟨n', rfl⟩ : ∃ n', n = n' + 1 := ⟨n - 1, by omega⟩
    rw [f_X10_same_L136, h33, if_pos (nI_le (by omega) (by omega))]; rfl
  | succ m ih =>
    intro n r hr hn
    obtain ⟨n', rfl⟩ : ∃ n', n = n' + 1 := ⟨n - 1, by omega⟩
    rw [f_X10_same_L136, h33, if_neg (nI_ge (show r < dH D by omega) (by omega)), show (0 : Int32) = nI 0 from rfl, cmp_in (W := 0) (E := E) (v2 := v2) (v3 := v3) (v4 := v4) hd wd hcell hpart h32 (by omega) (dW D) FU 0 (by omega) (show dW D < 8192 by omega)]
    show _ = some (b01 ((rowB D E v2 v3 v4 r (dW D) 0 && allB D E v2 v3 v4 m (r + 1)) = true), μ)
    cases hrow : rowB D E v2 v3 v4 r (dW D) 0 with
    | true => rw [if_pos rfl, nI_s, ih n' (r + 1) (by omega) (by omega), Bool.true_and]
    | false => rw [if_neg (by decide), Bool.false_and, b01_f (by decide)]
/-- scratch of the model: what no state holds -/
def scrM (μ r : Mem) : Prop := (∀ b, 1 ≤ b → b ≠ 25 → b ≠ 26 → r.1 b = μ.1 b) ∧ ∀ j, j ≠ 32 → j ≠ 33 → r.1 0 j = μ.1 0 j
theorem RM_scr {σ : St} {μ r : Mem} (hm : RM σ μ) (h : scrM μ r) : RM σ r :=
  ⟨ML_of (fun b h1 _ => h.1 b h1 (by omega) (by omega)) hm.1, MD_of (fun b h1 _ => h.1 b (by omega) (by omega) (by omega)) hm.2.1, MS_of (h.2 15 (by omega) (by omega)) (fun b h1 _ => h.1 b (by omega) (by omega) (by omega)) hm.2.2.1, MT_of (h.2 25 (by omega) (by omega)) (h.1 24 (by omega) (by omega) (by omega)) hm.2.2.2.1, MF_of (h.2 30 (by omega) (by omega)) (h.2 31 (by omega) (by omega)) hm.2.2.2.2.1, MP_of (h.2 66 (by omega) (by omega)) (h.1 49 (by omega) (by omega) (by omega)) hm.2.2.2.2.2⟩
theorem xor00 (x : Int32) : (x ^^^ 0) ^^^ 0 = x := by rw [Int32.xor_zero, Int32.xor_zero]
