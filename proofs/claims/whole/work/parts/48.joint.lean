/-! the steps of joint and of -/
def jD (D : DoorD) (c r : Nat) (down : Int32) : Int32 :=
  if down = 0 then (if c + 1 < dW D then jv (nI (dC D c r)) (nI (dC D (c + 1) r)) down else -1)
  else (if r + 1 < dH D then jv (nI (dC D c r)) (nI (dC D c (r + 1))) down else -1)
theorem nI_s (c : Nat) : nI c + 1 = nI (c + 1) := nI_1 c
theorem jointAt_in {μ : Mem} {a : Nat} {D : DoorD} {c r : Nat} {v : Int32} (wd : WFd D) (cd : Cd μ a D) (hc : c < dW D) (hr : r < dH D) : f_X1_jointAt (a + 1) (nI c) (nI r) v μ = some (jD D c r v, μ) := by
  obtain ⟨w1, w2, w3, w4, -⟩ := wd
  have h1 := cd.2.1
  have h2 := cd.2.2.1
  have hcell := cd.2.2.2.1
  unfold f_X1_jointAt jD
  rw [has_eq h1 h2, bd_some, b01_t ⟨(bt1 w1 (by omega)).mpr ⟨c, hc, rfl⟩, (bt1 w3 (by omega)).mpr ⟨r, hr, rfl⟩⟩, if_neg (by decide)]
  by_cases hv : v = 0
  · rw [if_pos hv, if_pos hv, nI_s, has_eq h1 h2, bd_some]
    by_cases hx : c + 1 < dW D
    · rw [b01_t ⟨(bt1 w1 (by omega)).mpr ⟨c + 1, hx, rfl⟩, (bt1 w3 (by omega)).mpr ⟨r, hr, rfl⟩⟩, if_neg (by decide), cellAt_eq (by omega) (by omega), bd_some, cellAt_eq (by omega) (by omega), bd_some, beside_eq, bd_some, if_pos hx, hcell c r hc hr, hcell (c + 1) r hx hr, hv]
    · rw [b01_f (fun z => by
        obtain ⟨q, hq, e⟩ := (bt1 w1 (by omega)).mp z.1
        have := nI_inj (by omega) (by omega) e
        omega), if_pos rfl, if_neg hx]
  · rw [if_neg hv, if_neg hv, nI_s, has_eq h1 h2, bd_some]
    by_cases hx : r + 1 < dH D
    · rw [b01_t ⟨(bt1 w1 (by omega)).mpr ⟨c, hc, rfl⟩, (bt1 w3 (by omega)).mpr ⟨r + 1, hx, rfl⟩⟩, if_neg (by decide), cellAt_eq (by omega) (by omega), bd_some, cellAt_eq (by omega) (by omega), bd_some, below_eq _ _ v hv, bd_some, if_pos hx, hcell c r hc hr, hcell c (r + 1) hc hx]
    · rw [b01_f (fun z => by
        obtain ⟨q, hq, e⟩ := (bt1 w3 (by omega)).mp z.2
        have := nI_inj (by omega) (by omega) e
        omega), if_pos rfl, if_neg hx]
theorem jointAt_out {μ : Mem} {a : Nat} {D : DoorD} {x y v : Int32} (wd : WFd D) (cd : Cd μ a D) (hn : ¬ ((∃ c, c < dW D ∧ x = nI c) ∧ ∃ r, r < dH D ∧ y = nI r)) : f_X1_jointAt (a + 1) x y v μ = some (-1, μ) := by
  obtain ⟨w1, w2, w3, w4, -⟩ := wd
  unfold f_X1_jointAt
  rw [has_eq cd.2.1 cd.2.2.1, bd_some, b01_f (fun z => hn ⟨(bt1 w1 (by omega)).mp z.1, (bt1 w3 (by omega)).mp z.2⟩), if_pos rfl]
theorem jointM_in {μ : Mem} {d : Nat} {Dr : Nat → Option DoorD} {D : DoorD} {c r : Nat} {v : Int32} (hM : MD μ Dr) (hd : d < 8) (hD : Dr d = some D) (wd : WFd D) (hc : c < dW D) (hr : r < dH D) : f_X10_joint (nI d) (nI c) (nI r) v μ = some (jD D c r v, μ) := by
  have md : Md μ d D := by have := hM d hd; rw [hD] at this; exact this
  have w := wd
  obtain ⟨w1, w2, w3, w4, -⟩ := w
  have h1 := md.1
  have h2 := md.2.1
  have hcell := md.2.2.1
  unfold f_X10_joint jD
  rw [isDoor_some hM wd hd hD, bd_some, if_neg (by decide), if_neg (nI_pos (by omega)), if_neg (nI_pos (by omega)), rI_nI hd (by decide), bi_some, h1, rI_nI hd (by decide), bi_some, h2, bi_some]
  have e0 : ∀ k, nI k - 0 = nI k := fun k => Int32.sub_zero _
  obtain ⟨W, hW⟩ : ∃ W, dW D = W + 1 := ⟨dW D - 1, by omega⟩
  obtain ⟨H, hH⟩ : ∃ H, dH D = H + 1 := ⟨dH D - 1, by omega⟩
  rw [e0, e0, hW, hH, nI_pred, nI_pred]
  by_cases hv : v = 0
  · rw [if_pos hv, if_pos hv]
    by_cases hx : c + 1 < W + 1
    · rw [if_neg (nI_ge (show c < W by omega) (by omega)), if_pos (nI_lt (show r < H + 1 by omega) (by omega)), pieceOf_eq hd (by omega) (by omega), bd_some, nI_s, pieceOf_eq hd (by omega) (by omega), bd_some, jointOf_eq, bd_some, if_pos hx, hcell c r hc hr, hcell (c + 1) r (by omega) hr]
    · rw [if_pos (nI_le (show W ≤ c by omega) (by omega)), if_neg hx]
  · rw [if_neg hv, if_neg hv, if_neg (nI_ge (show c < W + 1 by omega) (by omega))]
    by_cases hx : r + 1 < H + 1
    · rw [if_pos (nI_lt (show r < H by omega) (by omega)), pieceOf_eq hd (by omega) (by omega), bd_some, nI_s, pieceOf_eq hd (by omega) (by omega), bd_some, jointOf_eq, bd_some, if_pos hx, hcell c r hc hr, hcell c (r + 1) hc (by omega)]
    · rw [if_neg (nI_nlt (show H ≤ r by omega) (by omega)), if_neg hx]
theorem jointM_out {μ : Mem} {d : Nat} {Dr : Nat → Option DoorD} {D : DoorD} {x y v : Int32} (hM : MD μ Dr) (hd : d < 8) (hD : Dr d = some D) (wd : WFd D) (hn : ¬ ((∃ c, c < dW D ∧ x = nI c) ∧ ∃ r, r < dH D ∧ y = nI r)) : f_X10_joint (nI d) x y v μ = some (-1, μ) := by
  have md : Md μ d D := by have := hM d hd; rw [hD] at this; exact this
  have w := wd
  obtain ⟨w1, w2, w3, w4, -⟩ := w
  have h1 := md.1
  have h2 := md.2.1
  unfold f_X10_joint
  rw [isDoor_some hM wd hd hD, bd_some, if_neg (by decide), rI_nI hd (by decide), bi_some, h1, rI_nI hd (by decide), bi_some, h2, bi_some]
  have e0 : ∀ k, nI k - 0 = nI k := fun k => Int32.sub_zero _
  obtain ⟨W, hW⟩ : ∃ W, dW D = W + 1 := ⟨dW D - 1, by omega⟩
  obtain ⟨H, hH⟩ : ∃ H, dH D = H + 1 := ⟨dH D - 1, by omega⟩
  rw [e0, e0, hW, hH, nI_pred, nI_pred]
  rw [hW, hH] at hn
  by_cases hx0 : x < 0
  · rw [if_pos hx0]
  · rw [if_neg hx0]
    by_cases hy0 : y < 0
    · rw [if_pos hy0]
    · rw [if_neg hy0]
      obtain ⟨c, hc, rfl⟩ := nI_of hx0
      obtain ⟨r, hr, rfl⟩ := nI_of hy0
      have hcr : ¬ (c < W + 1 ∧ r < H + 1) := fun q => hn ⟨⟨c, q.1, rfl⟩, ⟨r, q.2, rfl⟩⟩
      by_cases hv : v = 0
      · rw [if_pos hv]
        by_cases hcw : W ≤ c
        · rw [if_pos (nI_le hcw hc)]
        · rw [if_neg (nI_ge (by omega) (by omega)), if_neg (nI_nlt (show H + 1 ≤ r by omega) hr)]
      · rw [if_neg hv]
        by_cases hcw : W + 1 ≤ c
        · rw [if_pos (nI_le hcw hc)]
        · rw [if_neg (nI_ge (by omega) (by omega)), if_neg (nI_nlt (show H ≤ r by omega) hr)]
theorem step_joint {n : Nat} {μc μm : Mem} (S : Sim n μc μm) (v1 v2 v3 v4 : Int32) : Both n (f_X9_joint v1 v2 v3 v4 μc) (f_X10_joint v1 v2 v3 v4 μm) := by
  obtain ⟨σ, hw, hc, hm⟩ := S
  have S : Sim n μc μm := ⟨σ, hw, hc, hm⟩
  unfold f_X9_joint
  rcases names v1 (σD σ) 8 with ⟨d, D, hd, rfl, hD⟩ | hn
  · have wd := (hw.2.1 d D hD).2
    have cd : Cd μc (56 + 4 * d) D := by have := hc.2.1 d hd; rw [hD] at this; exact this
    rw [doorAt_some hc.2.1 hd hD, bd_some, oc_some]
    by_cases p : (∃ c, c < dW D ∧ v2 = nI c) ∧ ∃ r, r < dH D ∧ v3 = nI r
    · obtain ⟨⟨c, hc2, rfl⟩, ⟨r, hr, rfl⟩⟩ := p
      rw [jointAt_in wd cd hc2 hr, jointM_in hm.2.1 hd hD wd hc2 hr, bd_some]
      exact Both.keep S _ rfl rfl
    · rw [jointAt_out wd cd p, jointM_out hm.2.1 hd hD wd p, bd_some]
      exact Both.keep S _ rfl rfl
  · rw [doorAt_none hc.2.1 hn, bd_some]
    refine Both.keep S (-1) rfl ?_
    unfold f_X10_joint
    rw [isDoor_none hm.2.1 hn, bd_some, if_pos rfl]
/-- joints of a kind in m pieces of a row from column c on -/
def accI (D : DoorD) (kind : Int32) (r : Nat) : Nat → Nat → Int32 → Int32
  | 0, _, acc => acc
  | m + 1, c, acc => accI D kind r m (c + 1) ((acc + b01 (jD D c r 0 = kind)) + b01 (jD D c r 1 = kind))
def accO (D : DoorD) (kind : Int32) : Nat → Nat → Int32 → Int32
  | 0, _, acc => acc
  | m + 1, r, acc => accO D kind m (r + 1) (accI D kind r (dW D) 0 acc)
theorem cJ_in {μ : Mem} {a : Nat} {D : DoorD} {kind : Int32} {r : Nat} {K : Int32 → Mem → Option (Int32 × Mem)} (wd : WFd D) (cd : Cd μ a D) (hr : r < dH D) : ∀ (m n c : Nat) (acc : Int32), c + m = dW D → m < n → f_X1_countJoints_L15 (a + 1) kind (nI r) K n acc (nI c) μ = K (accI D kind r m c acc) μ := by
  intro m
  induction m with
  | zero =>
    intro n c acc hc hn
    obtain ⟨n', rfl⟩ : ∃ n', n = n' + 1 := ⟨n - 1, by omega⟩
    have w2 := wd.2.1
    rw [f_X1_countJoints_L15, cd.2.1, if_pos (nI_le (by omega) (by omega))]; rfl
  | succ m ih =>
    intro n c acc hc hn
    obtain ⟨n', rfl⟩ : ∃ n', n = n' + 1 := ⟨n - 1, by omega⟩
    have w2 := wd.2.1
    rw [f_X1_countJoints_L15, cd.2.1, if_neg (nI_ge (show c < dW D by omega) (by omega)), jointAt_in wd cd (by omega) hr, bd_some]
    show _ = K (accI D kind r m (c + 1) _) μ
    by_cases h0 : jD D c r 0 = kind
    · rw [if_pos h0, jointAt_in wd cd (by omega) hr, bd_some, b01_t h0]
      by_cases h1 : jD D c r 1 = kind
      · rw [if_pos h1, b01_t h1, nI_s, ih n' (c + 1) _ (by omega) (by omega)]
      · rw [if_neg h1, b01_f h1, nI_s, ih n' (c + 1) _ (by omega) (by omega)]
    · rw [if_neg h0, jointAt_in wd cd (by omega) hr, bd_some, b01_f h0]
      by_cases h1 : jD D c r 1 = kind
      · rw [if_pos h1, b01_t h1, nI_s, ih n' (c + 1) _ (by omega) (by omega)]
      · rw [if_neg h1, b01_f h1, nI_s, ih n' (c + 1) _ (by omega) (by omega)]
theorem cJ_out {μ : Mem} {a : Nat} {D : DoorD} {kind : Int32} {K : Int32 → Mem → Option (Int32 × Mem)} (wd : WFd D) (cd : Cd μ a D) : ∀ (m n r : Nat) (acc : Int32), r + m = dH D → m < n → f_X1_countJoints_L4 (a + 1) kind K n acc (nI r) μ = K (accO D kind m r acc) μ := by
  intro m
  induction m with
  | zero =>
    intro n r acc hr hn
    obtain ⟨n', rfl⟩ : ∃ n', n = n' + 1 := ⟨n - 1, by omega⟩
    have w2 := wd.2.2.2.1
    rw [f_X1_countJoints_L4, cd.2.2.1, if_pos (nI_le (by omega) (by omega))]; rfl
  | succ m ih =>
    intro n r acc hr hn
    obtain ⟨n', rfl⟩ : ∃ n', n = n' + 1 := ⟨n - 1, by omega⟩
    have w2 := wd.2.2.2.1
    have w3 := wd.2.1
    rw [f_X1_countJoints_L4, cd.2.2.1, if_neg (nI_ge (show r < dH D by omega) (by omega)), show (0 : Int32) = nI 0 from rfl, cJ_in wd cd (by omega) (dW D) FU 0 acc (by omega) (show dW D < 8192 by omega), nI_s, ih n' (r + 1) _ (by omega) (by omega)]
    rfl
theorem countJoints_eq {μ : Mem} {a : Nat} {D : DoorD} {kind : Int32} (wd : WFd D) (cd : Cd μ a D) : f_X1_countJoints (a + 1) kind μ = some (accO D kind (dH D) 0 0, μ) := by
  have w2 := wd.2.2.2.1
  unfold f_X1_countJoints
  exact cJ_out wd cd (dH D) FU 0 0 (by omega) (show dH D < 8192 by omega)
theorem mJ_in {μ : Mem} {d : Nat} {Dr : Nat → Option DoorD} {D : DoorD} {kind : Int32} {r : Nat} {K : Int32 → Mem → Option (Int32 × Mem)} (hM : MD μ Dr) (hd : d < 8) (hD : Dr d = some D) (wd : WFd D) (hr : r < dH D) : ∀ (m n c : Nat) (acc : Int32), c + m = dW D → m < n → f_X10_joints_L19 (nI d) kind (nI r) K n acc (nI c) μ = K (accI D kind r m c acc) μ := by
  have md : Md μ d D := by have := hM d hd; rw [hD] at this; exact this
  intro m
  induction m with
  | zero =>
    intro n c acc hc hn
    obtain ⟨n', rfl⟩ : ∃ n', n = n' + 1 := ⟨n - 1, by omega⟩
    have w2 := wd.2.1
    rw [f_X10_joints_L19, rI_nI hd (by decide), bi_some, md.1, if_pos (nI_le (by omega) (by omega))]; rfl
  | succ m ih =>
    intro n c acc hc hn
    obtain ⟨n', rfl⟩ : ∃ n', n = n' + 1 := ⟨n - 1, by omega⟩
    have w2 := wd.2.1
    rw [f_X10_joints_L19, rI_nI hd (by decide), bi_some, md.1, if_neg (nI_ge (show c < dW D by omega) (by omega)), jointM_in hM hd hD wd (by omega) hr, bd_some]
    show _ = K (accI D kind r m (c + 1) _) μ
    by_cases h0 : jD D c r 0 = kind
    · rw [if_pos h0, jointM_in hM hd hD wd (by omega) hr, bd_some, b01_t h0]
      by_cases h1 : jD D c r 1 = kind
      · rw [if_pos h1, b01_t h1, nI_s, ih n' (c + 1) _ (by omega) (by omega)]
      · rw [if_neg h1, b01_f h1, nI_s, ih n' (c + 1) _ (by omega) (by omega), Int32.add_zero]
    · rw [if_neg h0, jointM_in hM hd hD wd (by omega) hr, bd_some, b01_f h0]
      by_cases h1 : jD D c r 1 = kind
      · rw [if_pos h1, b01_t h1, nI_s, ih n' (c + 1) _ (by omega) (by omega), Int32.add_zero]
      · rw [if_neg h1, b01_f h1, nI_s, ih n' (c + 1) _ (by omega) (by omega), Int32.add_zero, Int32.add_zero]
theorem mJ_out {μ : Mem} {d : Nat} {Dr : Nat → Option DoorD} {D : DoorD} {kind : Int32} {K : Int32 → Mem → Option (Int32 × Mem)} (hM : MD μ Dr) (hd : d < 8) (hD : Dr d = some D) (wd : WFd D) : ∀ (m n r : Nat) (acc : Int32), r + m = dH D → m < n → f_X10_joints_L5 (nI d) kind K n acc (nI r) μ = K (accO D kind m r acc) μ := by
  have md : Md μ d D := by have := hM d hd; rw [hD] at this; exact this
  intro m
  induction m with
  | zero =>
    intro n r acc hr hn
    obtain ⟨n', rfl⟩ : ∃ n', n = n' + 1 := ⟨n - 1, by omega⟩
    have w2 := wd.2.2.2.1
    rw [f_X10_joints_L5, rI_nI hd (by decide), bi_some, md.2.1, if_pos (nI_le (by omega) (by omega))]; rfl
  | succ m ih =>
    intro n r acc hr hn
    obtain ⟨n', rfl⟩ : ∃ n', n = n' + 1 := ⟨n - 1, by omega⟩
    have w2 := wd.2.2.2.1
    have w3 := wd.2.1
    rw [f_X10_joints_L5, rI_nI hd (by decide), bi_some, md.2.1, if_neg (nI_ge (show r < dH D by omega) (by omega)), show (0 : Int32) = nI 0 from rfl, mJ_in hM hd hD wd (by omega) (dW D) FU 0 acc (by omega) (show dW D < 8192 by omega), nI_s, ih n' (r + 1) _ (by omega) (by omega)]
    rfl
theorem joints_eq {μ : Mem} {d : Nat} {Dr : Nat → Option DoorD} {D : DoorD} {kind : Int32} (hM : MD μ Dr) (hd : d < 8) (hD : Dr d = some D) (wd : WFd D) : f_X10_joints (nI d) kind μ = some (accO D kind (dH D) 0 0, μ) := by
  have w2 := wd.2.2.2.1
  unfold f_X10_joints
  exact mJ_out hM hd hD wd (dH D) FU 0 0 (by omega) (show dH D < 8192 by omega)
