/-! two drawings compared: the class's side -/
def mir (v : Int32) (W c : Nat) : Nat := if v = 0 then c else W - 1 - c
theorem mir_lt {v : Int32} {W c : Nat} (h : c < W) : mir v W c < W := by unfold mir; split <;> omega
theorem mir_eq {v : Int32} {W c : Nat} (h : c < W) (hv : ¬ v = 0) : nI W - 1 - nI c = nI (mir v W c) := by
  obtain ⟨k, rfl⟩ : ∃ k, W = k + 1 := ⟨W - 1, by omega⟩
  unfold mir
  rw [if_neg hv, nI_pred, pk_sub (by omega)]
  rfl
/-- does the piece of D equal that of E, seen so? -/
def likeB (D E : DoorD) (v2 v3 v4 : Int32) (c r : Nat) : Bool := decide (nI (dC D c r) = nI (dC E (mir v2 (dW D) c) (mir v3 (dH D) r)) ^^^ v4)
def rowB (D E : DoorD) (v2 v3 v4 : Int32) (r : Nat) : Nat → Nat → Bool
  | 0, _ => true
  | m + 1, c => likeB D E v2 v3 v4 c r && rowB D E v2 v3 v4 r m (c + 1)
def allB (D E : DoorD) (v2 v3 v4 : Int32) : Nat → Nat → Bool
  | 0, _ => true
  | m + 1, r => rowB D E v2 v3 v4 r (dW D) 0 && allB D E v2 v3 v4 m (r + 1)
theorem like_in {μ : Mem} {a e : Nat} {D E : DoorD} {v2 v3 v4 : Int32} {r : Nat} {K : Mem → Option (Int32 × Mem)} (wd : WFd D) (cd : Cd μ a D) (ce : Cd μ e E) (hW : dW E = dW D) (hH : dH E = dH D) (hr : r < dH D) : ∀ (m n c : Nat), c + m = dW D → m < n → f_X1_isLike_L62 (a + 1) (e + 1) v2 v3 v4 (nI r) K n (nI c) μ = if rowB D E v2 v3 v4 r m c = true then K μ else some (0, μ) := by
  obtain ⟨w1, w2, w3, w4, -⟩ := wd
  intro m
  induction m with
  | zero =>
    intro n c hc hn
    obtain ⟨n', rfl⟩ : ∃ n', n = n' + 1 := ⟨n - 1, by omega⟩
    rw [f_X1_isLike_L62, cd.2.1, if_pos (nI_le (by omega) (by omega))]; rfl
  | succ m ih =>
    intro n c hc hn
    obtain ⟨n', rfl⟩ : ∃ n', n = n' + 1 := ⟨n - 1, by omega⟩
    have hcW : c < dW D := by omega
    have l1 := mir_lt (v := v2) hcW
    have l2 := mir_lt (v := v3) hr
    have hcd := cd.2.2.2.1 c r hcW hr
    have hce := ce.2.2.2.1 (mir v2 (dW D) c) (mir v3 (dH D) r) (by omega) (by omega)
    have key : (bd (f_X1_cellAt (e + 1) (nI (mir v2 (dW D) c)) (nI (mir v3 (dH D) r)) μ) fun r10 μ9 => bd (f_X1_cellAt (a + 1) (nI c) (nI r) μ9) fun r12 μ11 => if r12 = (r10 ^^^ v4) then f_X1_isLike_L62 (a + 1) (e + 1) v2 v3 v4 (nI r) K n' (nI c + 1) μ11 else some ((0 : Int32), μ11)) = if rowB D E v2 v3 v4 r (m + 1) c = true then K μ else some (0, μ) := by
      rw [cellAt_eq (by omega) (by omega), bd_some, cellAt_eq (by omega) (by omega), bd_some, hcd, hce]
      show _ = if (likeB D E v2 v3 v4 c r && rowB D E v2 v3 v4 r m (c + 1)) = true then K μ else some (0, μ)
      by_cases h : nI (dC D c r) = nI (dC E (mir v2 (dW D) c) (mir v3 (dH D) r)) ^^^ v4
      · have hb : likeB D E v2 v3 v4 c r = true := decide_eq_true h
        rw [if_pos h, nI_s, ih n' (c + 1) (by omega) (by omega), hb, Bool.true_and]
      · have hb : likeB D E v2 v3 v4 c r = false := decide_eq_false h
        rw [if_neg h, hb, Bool.false_and, if_neg (by decide)]
    rw [f_X1_isLike_L62, cd.2.1, cd.2.2.1, if_neg (nI_ge hcW (by omega)), ← key]
    by_cases h2 : v2 = 0
    · rw [if_pos h2]
      have e2 : mir v2 (dW D) c = c := by unfold mir; rw [if_pos h2]
      by_cases h3 : v3 = 0
      · have e3 : mir v3 (dH D) r = r := by unfold mir; rw [if_pos h3]
        rw [if_pos h3, e2, e3]
      · rw [if_neg h3, e2, mir_eq hr h3]
    · rw [if_neg h2, mir_eq hcW h2]
      by_cases h3 : v3 = 0
      · have e3 : mir v3 (dH D) r = r := by unfold mir; rw [if_pos h3]
        rw [if_pos h3, e3]
      · rw [if_neg h3, mir_eq hr h3]
theorem like_out {μ : Mem} {a e : Nat} {D E : DoorD} {v2 v3 v4 : Int32} (wd : WFd D) (cd : Cd μ a D) (ce : Cd μ e E) (hW : dW E = dW D) (hH : dH E = dH D) : ∀ (m n r : Nat), r + m = dH D → m < n → f_X1_isLike_L50 (a + 1) (e + 1) v2 v3 v4 (fun μ31 => some ((1 : Int32), μ31)) n (nI r) μ = some (b01 (allB D E v2 v3 v4 m r = true), μ) := by
  have w := wd
  obtain ⟨w1, w2, w3, w4, -⟩ := w
  intro m
  induction m with
  | zero =>
    intro n r hr hn
    obtain ⟨n', rfl⟩ : ∃ n', n = n' + 1 := ⟨n - 1, by omega⟩
    rw [f_X1_isLike_L50, cd.2.2.1, if_pos (nI_le (by omega) (by omega))]; rfl
  | succ m ih =>
    intro n r hr hn
    obtain ⟨n', rfl⟩ : ∃ n', n = n' + 1 := ⟨n - 1, by omega⟩
    rw [f_X1_isLike_L50, cd.2.2.1, if_neg (nI_ge (show r < dH D by omega) (by omega)), show (0 : Int32) = nI 0 from rfl, like_in wd cd ce hW hH (by omega) (dW D) FU 0 (by omega) (show dW D < 8192 by omega)]
    show _ = some (b01 ((rowB D E v2 v3 v4 r (dW D) 0 && allB D E v2 v3 v4 m (r + 1)) = true), μ)
    cases hrow : rowB D E v2 v3 v4 r (dW D) 0 with
    | true => rw [if_pos rfl, nI_s, ih n' (r + 1) (by omega) (by omega), Bool.true_and]
    | false => rw [if_neg (by decide), Bool.false_and, b01_f (by decide)]
theorem isLike_eq {μ : Mem} {a e : Nat} {D E : DoorD} {v2 v3 : Int32} (wd : WFd D) (we : WFd E) (cd : Cd μ a D) (ce : Cd μ e E) : f_X1_isLike (a + 1) (e + 1) v2 v3 μ = some (b01 ((dW D = dW E ∧ dH D = dH E) ∧ allB D E v2 v3 ((if v2 = 0 then 0 else 16) ||| (if v3 = 0 then 0 else 32)) (dH D) 0 = true), μ) := by
  have w2 := wd.2.1
  have w4 := wd.2.2.2.1
  have x2 := we.2.1
  have x4 := we.2.2.2.1
  unfold f_X1_isLike
  rw [cd.2.1, cd.2.2.1, ce.2.1, ce.2.2.1]
  by_cases hW : dW D = dW E
  · rw [if_pos (by rw [hW])]
    by_cases hH : dH D = dH E
    · rw [if_pos (by rw [hH])]
      have fin : ∀ v4 : Int32, f_X1_isLike_L50 (a + 1) (e + 1) v2 v3 v4 (fun μ31 => some ((1 : Int32), μ31)) FU 0 μ = some (b01 ((dW D = dW E ∧ dH D = dH E) ∧ allB D E v2 v3 v4 (dH D) 0 = true), μ) := by
        intro v4
        have := like_out (v2 := v2) (v3 := v3) (v4 := v4) wd cd ce hW.symm hH.symm (dH D) FU 0 (by omega) (show dH D < 8192 by omega)
        rw [show (0 : Int32) = nI 0 from rfl, this]
        by_cases hb : allB D E v2 v3 v4 (dH D) 0 = true
        · rw [b01_t hb, b01_t ⟨⟨hW, hH⟩, hb⟩]
        · rw [b01_f hb, b01_f (fun z => hb z.2)]
      by_cases h2 : v2 = 0
      · rw [if_pos h2]
        by_cases h3 : v3 = 0
        · rw [if_pos h3, fin, if_pos h2, if_pos h3]
        · rw [if_neg h3, fin, if_pos h2, if_neg h3]
      · rw [if_neg h2]
        by_cases h3 : v3 = 0
        · rw [if_pos h3, fin, if_neg h2, if_pos h3]
        · rw [if_neg h3, fin, if_neg h2, if_neg h3]
    · rw [if_neg (fun q => hH (nI_inj (by omega) (by omega) q)), b01_f (fun z => hH z.1.2)]
  · rw [if_neg (fun q => hW (nI_inj (by omega) (by omega) q)), b01_f (fun z => hW z.1.1)]
