/-! the model turns a part over and upside down -/
theorem copy64 {v1 v2 : Int32} {K : Mem → Option Mem} : ∀ (m n k : Nat) (μ : Mem), k + m = 64 → m < n → ∃ r, f_X10_turns_L2 v1 v2 K n (nI k) μ = K r ∧ (∀ b, b ≠ 26 → r.1 b = μ.1 b) ∧ (∀ j, k ≤ j → j < 64 → r.1 26 j = μ.1 25 j) ∧ (∀ j, j < k → r.1 26 j = μ.1 26 j) := by
  intro m
  induction m with
  | zero =>
    intro n k μ hk hn
    obtain ⟨n', rfl⟩ : ∃ n', n = n' + 1 := ⟨n - 1, by omega⟩
    have : k = 64 := by omega
    subst this
    exact ⟨μ, by rw [f_X10_turns_L2, if_pos (by decide)], fun _ _ => rfl, fun j h1 h2 => by omega, fun _ _ => rfl⟩
  | succ m ih =>
    intro n k μ hk hn
    obtain ⟨n', rfl⟩ : ∃ n', n = n' + 1 := ⟨n - 1, by omega⟩
    obtain ⟨r, e, r1, r2, r3⟩ := ih n' (k + 1) (sI μ 26 k (μ.1 25 k)) (by omega) (by omega)
    refine ⟨r, ?_, fun b hb => by rw [r1 b hb, sI_pl hb], fun j h1 h2 => ?_, fun j hj => by rw [r3 j (by omega), sI_sl (by omega)]⟩
    · rw [f_X10_turns_L2, if_neg (show ¬ (64 : Int32) ≤ nI k from nI_ge (show k < 64 by omega) (by decide)), rI_nI (by omega) (by decide), bi_some, wI_nI (by omega) (by decide), bi_some, nI_s, e]
    · by_cases hj : j = k
      · subst hj; rw [r3 j (by omega), sI_same]
      · rw [r2 j (by omega) h2, sI_pl (by decide)]
/-- what a turned part holds at a column and row -/
def tv (μ : Mem) (W H : Nat) (v1 v2 : Int32) (c r : Nat) : Int32 := (μ.1 26 (8 * mir v2 H r + mir v1 W c) ^^^ (if v1 = 0 then 0 else 16)) ^^^ (if v2 = 0 then 0 else 32)
theorem turn_in {v1 v2 : Int32} {W H r : Nat} {K : Mem → Option Mem} (hW : W ≤ 8) (hH : H ≤ 8) (hr : r < H) : ∀ (m n c : Nat) (μ : Mem), c + m = W → m < n → μ.1 0 32 = nI W → μ.1 0 33 = nI H → ∃ q, f_X10_turns_L39 v1 v2 (nI r) K n (nI c) μ = K q ∧ (∀ b, b ≠ 25 → q.1 b = μ.1 b) ∧ (∀ j, c ≤ j → j < W → q.1 25 (8 * r + j) = tv μ W H v1 v2 j r) ∧ (∀ x, ¬ (8 * r + c ≤ x ∧ x < 8 * r + W) → q.1 25 x = μ.1 25 x) := by
  intro m
  induction m with
  | zero =>
    intro n c μ hc hn h32 h33
    obtain ⟨n', rfl⟩ : ∃ n', n = n' + 1 := ⟨n - 1, by omega⟩
    exact ⟨μ, by rw [f_X10_turns_L39, h32, if_pos (nI_le (by omega) (by omega))], fun _ _ => rfl, fun j h1 h2 => by omega, fun _ _ => rfl⟩
  | succ m ih =>
    intro n c μ hc hn h32 h33
    obtain ⟨n', rfl⟩ : ∃ n', n = n' + 1 := ⟨n - 1, by omega⟩
    have hcW : c < W := by omega
    have l1 := mir_lt (v := v1) hcW
    have l2 := mir_lt (v := v2) hr
    have ei : (8 : Int32) * nI r + nI c = nI (8 * r + c) := by rw [show (8 : Int32) = nI 8 from rfl, pk_mul, nI_add]
    obtain ⟨q, e, q1, q2, q3⟩ := ih n' (c + 1) (sI μ 25 (8 * r + c) (tv μ W H v1 v2 c r)) (by omega) (by omega) (by rw [sI_pl (by decide)]; exact h32) (by rw [sI_pl (by decide)]; exact h33)
    have key : ∀ x y : Int32, x = (if v1 = 0 then 0 else 16) → y = (if v2 = 0 then 0 else 32) → ((rI μ 64 26 ((8 : Int32) * nI (mir v2 H r) + nI (mir v1 W c))).bind fun e9 => (wI μ 64 25 (nI (8 * r + c)) ((e9 ^^^ x) ^^^ y)).bind fun μ10 => f_X10_turns_L39 v1 v2 (nI r) K n' (nI c + 1) μ10) = K q := by
      intro x y hx hy
      have ej : (8 : Int32) * nI (mir v2 H r) + nI (mir v1 W c) = nI (8 * mir v2 H r + mir v1 W c) := by rw [show (8 : Int32) = nI 8 from rfl, pk_mul, nI_add]
      rw [ej, rI_nI (by omega) (by decide), bi_some, wI_nI (by omega) (by decide), bi_some, nI_s, hx, hy]
      exact e
    refine ⟨q, ?_, fun b hb => by rw [q1 b hb, sI_pl hb], fun j h1 h2 => ?_, fun x hx => by rw [q3 x (by omega), sI_sl (by omega)]⟩
    · rw [f_X10_turns_L39, h32, h33, if_neg (nI_ge hcW (by omega)), ei]
      by_cases h2 : v2 = 0
      · rw [if_pos h2]
        have e2 : mir v2 H r = r := by unfold mir; rw [if_pos h2]
        by_cases h1 : v1 = 0
        · have e1 : mir v1 W c = c := by unfold mir; rw [if_pos h1]
          rw [if_pos h1]
          have := key 0 0 (by rw [if_pos h1]) (by rw [if_pos h2])
          rw [e1, e2, ei] at this
          exact this
        · rw [if_neg h1, mir_eq hcW h1]
          have := key 16 0 (by rw [if_neg h1]) (by rw [if_pos h2])
          rw [e2] at this
          exact this
      · rw [if_neg h2, mir_eq hr h2]
        by_cases h1 : v1 = 0
        · have e1 : mir v1 W c = c := by unfold mir; rw [if_pos h1]
          rw [if_pos h1]
          have := key 0 32 (by rw [if_pos h1]) (by rw [if_neg h2])
          rw [e1] at this
          exact this
        · rw [if_neg h1, mir_eq hcW h1]
          exact key 16 32 (by rw [if_neg h1]) (by rw [if_neg h2])
    · by_cases hj : j = c
      · subst hj
        rw [q3 (8 * r + j) (by omega), sI_same]
      · rw [q2 j (by omega) h2]
        unfold tv
        rw [sI_pl (by decide)]
theorem turn_out {v1 v2 : Int32} {W H : Nat} {K : Mem → Option Mem} (hW : W ≤ 8) (hH : H ≤ 8) : ∀ (m n r : Nat) (μ : Mem), r + m = H → m < n → μ.1 0 32 = nI W → μ.1 0 33 = nI H → ∃ q, f_X10_turns_L28 v1 v2 K n (nI r) μ = K q ∧ (∀ b, b ≠ 25 → q.1 b = μ.1 b) ∧ (∀ c k, c < W → r ≤ k → k < H → q.1 25 (8 * k + c) = tv μ W H v1 v2 c k) ∧ (∀ x, x < 8 * r → q.1 25 x = μ.1 25 x) := by
  intro m
  induction m with
  | zero =>
    intro n r μ hr hn h32 h33
    obtain ⟨n', rfl⟩ : ∃ n', n = n' + 1 := ⟨n - 1, by omega⟩
    exact ⟨μ, by rw [f_X10_turns_L28, h33, if_pos (nI_le (by omega) (by omega))], fun _ _ => rfl, fun c k _ h1 h2 => by omega, fun _ _ => rfl⟩
  | succ m ih =>
    intro n r μ hr hn h32 h33
    obtain ⟨n', rfl⟩ : ∃ n', n = n' + 1 := ⟨n - 1, by omega⟩
    obtain ⟨q, e, q1, q2, q3⟩ := turn_in (v1 := v1) (v2 := v2) (K := fun μ18 => f_X10_turns_L28 v1 v2 K n' (nI r + 1) μ18) hW hH (show r < H by omega) W FU 0 μ (by omega) (show W < 8192 by omega) h32 h33
    obtain ⟨s, e2, s1, s2, s3⟩ := ih n' (r + 1) q (by omega) (by omega) (by rw [q1 0 (by decide)]; exact h32) (by rw [q1 0 (by decide)]; exact h33)
    refine ⟨s, ?_, fun b hb => by rw [s1 b hb, q1 b hb], fun c k hc h1 h2 => ?_, fun x hx => by rw [s3 x (by omega), q3 x (by omega)]⟩
    · rw [f_X10_turns_L28, h33, if_neg (nI_ge (show r < H by omega) (by omega)), show (0 : Int32) = nI 0 from rfl, e, nI_s, e2]
    · by_cases hk : k = r
      · subst hk
        rw [s3 _ (by omega)]
        exact q2 c (by omega) hc
      · rw [s2 c k hc (by omega) h2]
        unfold tv
        rw [q1 26 (by decide)]
theorem turns_eq {v1 v2 : Int32} {W H : Nat} {μ : Mem} (hW : W ≤ 8) (hH : H ≤ 8) (h32 : μ.1 0 32 = nI W) (h33 : μ.1 0 33 = nI H) : ∃ q, f_X10_turns v1 v2 μ = some q ∧ (∀ b, b ≠ 25 → b ≠ 26 → q.1 b = μ.1 b) ∧ (∀ c r, c < W → r < H → q.1 25 (8 * r + c) = (μ.1 25 (8 * mir v2 H r + mir v1 W c) ^^^ (if v1 = 0 then 0 else 16)) ^^^ (if v2 = 0 then 0 else 32)) := by
  obtain ⟨r, e, r1, r2, -⟩ := copy64 (v1 := v1) (v2 := v2) (K := fun μ4 => f_X10_turns_L28 v1 v2 (fun μ19 => some μ19) FU 0 μ4) 64 FU 0 μ (by omega) (show 64 < 8192 by omega)
  obtain ⟨q, e2, q1, q2, -⟩ := turn_out (v1 := v1) (v2 := v2) (K := fun μ19 => some μ19) hW hH H FU 0 r (by omega) (show H < 8192 by omega) (by rw [r1 0 (by decide)]; exact h32) (by rw [r1 0 (by decide)]; exact h33)
  refine ⟨q, e.trans e2, fun b h1 h2 => by rw [q1 b h1, r1 b h2], fun c k hc hk => ?_⟩
  rw [q2 c k hc (by omega) hk]
  unfold tv
  have l1 := mir_lt (v := v1) hc
  have l2 := mir_lt (v := v2) hk
  rw [r2 _ (by omega) (by omega)]
