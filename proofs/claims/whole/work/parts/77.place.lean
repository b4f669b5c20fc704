/-! place: the model's counts, its leaves, its places; the step -/
def sc48 (μ r : Mem) : Prop := ∀ b, b ≠ 48 → r.1 b = μ.1 b
theorem sc48.rf {μ : Mem} : sc48 μ μ := fun _ _ => rfl
theorem sc48.tr {a b c : Mem} (h1 : sc48 a b) (h2 : sc48 b c) : sc48 a c := fun q p => (h2 q p).trans (h1 q p)
theorem sc48.m {a b : Mem} (h : sc48 a b) : scM a b := ⟨fun q _ p => h q (by omega), fun j _ => by rw [h 0 (by decide)]⟩
theorem sc48_48 {μ : Mem} {o : Nat} {v : Int32} : sc48 μ (sI μ 48 o v) := fun _ h => sI_pl h
theorem cn_clr {v1 : Int32} {K : Mem → Option Mem} : ∀ (m n k : Nat) (μ : Mem), k + m = 10 → m < n → (∀ o, o < k → μ.1 48 o = 0) → ∃ μ', sc48 μ μ' ∧ f_X10_counts_L2 v1 K n (nI k) μ = K μ' ∧ cmM μ' (fun _ => 0) := by
  intro m
  induction m with
  | zero =>
    intro n k μ hk hn h0
    obtain ⟨n', rfl⟩ : ∃ n', n = n' + 1 := ⟨n - 1, by omega⟩
    have : k = 10 := by omega
    subst this
    exact ⟨μ, sc48.rf, by rw [f_X10_counts_L2, if_pos (by decide)], fun o ho => h0 o ho⟩
  | succ m ih =>
    intro n k μ hk hn h0
    obtain ⟨n', rfl⟩ : ∃ n', n = n' + 1 := ⟨n - 1, by omega⟩
    have hk10 : ¬ (10 : Int32) ≤ nI k := nI_ge (b := 10) (by omega) (by omega)
    rw [f_X10_counts_L2, if_neg hk10, wI_nI (by omega) (by decide), bi_some, nI_s]
    obtain ⟨μ', q1, q2, q3⟩ := ih n' (k + 1) (sI μ 48 k 0) (by omega) (by omega) (fun o ho => by
      rw [sI_at]
      by_cases e : o = k
      · rw [if_pos ⟨rfl, e⟩]
      · rw [if_neg (fun z => e z.2)]; exact h0 o (by omega))
    exact ⟨μ', sc48.tr sc48_48 q1, q2, q3⟩
theorem Md_sc {μ r : Mem} {d : Nat} {D : DoorD} (h : Md μ d D) (s : scM μ r) : Md r d D := Md_of (fun b h1 h2 => s.1 b (by omega) (by omega)) h
theorem cn_in {d r : Nat} {D : DoorD} {K : Mem → Option Mem} (wd : WFd D) (hd : d < 8) (hr : r < dH D) : ∀ (m k c B : Nat) (M : Nat → Nat) (μ : Mem), Md μ d D → cmM μ M → (∀ q, M q ≤ B) → B + m ≤ 64 → c + m = dW D → m < k → ∃ μ', sc48 μ μ' ∧ f_X10_counts_L35 (nI d) (nI r) K k (nI c) μ = K μ' ∧ cmM μ' (ctR D r m c M) := by
  have w2 := wd.2.1
  have w4 := wd.2.2.2.1
  have wc := wd.2.2.2.2.1
  intro m
  induction m with
  | zero =>
    intro k c B M μ md hM hB hB2 hcm hk
    obtain ⟨k', rfl⟩ : ∃ k', k = k' + 1 := ⟨k - 1, by omega⟩
    refine ⟨μ, sc48.rf, ?_, hM⟩
    rw [f_X10_counts_L35, rI_nI hd (by decide), bi_some, md.1, if_pos (nI_le (by omega) (by omega))]
  | succ m ih =>
    intro k c B M μ md hM hB hB2 hcm hk
    obtain ⟨k', rfl⟩ : ∃ k', k = k' + 1 := ⟨k - 1, by omega⟩
    have ho := (wc c r (by omega) hr).1
    have hv64 := (wc c r (by omega) hr).2
    have hb := hB (offs (dC D c r))
    rw [f_X10_counts_L35, rI_nI hd (by decide), bi_some, md.1, if_neg (nI_ge (by omega) (by omega)), pieceOf_eq hd (by omega) (by omega), bd_some, md.2.2.1 c r (by omega) hr, and15 hv64, rI_nI (by omega) (by decide), bi_some, hM _ (by omega), nI_s, wI_nI (by omega) (by decide), bi_some, nI_s]
    obtain ⟨μ', q1, q2, q3⟩ := ih k' (c + 1) (B + 1) (inc M (offs (dC D c r))) (sI μ 48 (offs (dC D c r)) (nI (M (offs (dC D c r)) + 1))) (Md_sc md scM_48) (cmM_inc hM) (inc_le hB) (by omega) (by omega) (by omega)
    exact ⟨μ', sc48.tr sc48_48 q1, q2, q3⟩
theorem cn_out {d : Nat} {D : DoorD} (wd : WFd D) (hd : d < 8) : ∀ (m k r : Nat) (M : Nat → Nat) (μ : Mem), Md μ d D → cmM μ M → (∀ q, M q ≤ 8 * r) → r + m = dH D → m < k → ∃ μ', sc48 μ μ' ∧ f_X10_counts_L23 (nI d) (fun μ13 => (some μ13)) k (nI r) μ = some μ' ∧ cmM μ' (ctO D m r M) := by
  have w2 := wd.2.1
  have w4 := wd.2.2.2.1
  intro m
  induction m with
  | zero =>
    intro k r M μ md hM hB hcm hk
    obtain ⟨k', rfl⟩ : ∃ k', k = k' + 1 := ⟨k - 1, by omega⟩
    refine ⟨μ, sc48.rf, ?_, hM⟩
    rw [f_X10_counts_L23, rI_nI hd (by decide), bi_some, md.2.1, if_pos (nI_le (by omega) (by omega))]
  | succ m ih =>
    intro k r M μ md hM hB hcm hk
    obtain ⟨k', rfl⟩ : ∃ k', k = k' + 1 := ⟨k - 1, by omega⟩
    rw [f_X10_counts_L23, rI_nI hd (by decide), bi_some, md.2.1, if_neg (nI_ge (by omega) (by omega))]
    obtain ⟨μ1, q1, q2, q3⟩ := cn_in (K := fun μ12 => f_X10_counts_L23 (nI d) (fun μ13 => (some μ13)) k' (nI r + (1 : Int32)) μ12) wd hd (show r < dH D by omega) (dW D) FU 0 (8 * r) M μ md hM hB (by omega) (by omega) (show dW D < 8192 by omega)
    rw [show nI 0 = (0 : Int32) from rfl] at q2
    rw [q2, nI_s]
    have hle := ctR_le (D := D) (r := r) (dW D) 0 (8 * r) M hB
    obtain ⟨μ', t1, t2, t3⟩ := ih k' (r + 1) (ctR D r (dW D) 0 M) μ1 (Md_sc md q1.m) q3 (fun q => by have := hle q; omega) (by omega) (by omega)
    exact ⟨μ', sc48.tr q1 t1, t2, t3⟩
theorem countsM {d : Nat} {D : DoorD} {μ : Mem} (wd : WFd D) (hd : d < 8) (md : Md μ d D) : ∃ μ', sc48 μ μ' ∧ f_X10_counts (nI d) μ = some μ' ∧ cmM μ' (cnt D) := by
  have w4 := wd.2.2.2.1
  unfold f_X10_counts
  obtain ⟨m0, t0, e0, g0⟩ := cn_clr (v1 := nI d) (K := fun μ3 => f_X10_counts_L23 (nI d) (fun μ13 => (some μ13)) FU (0 : Int32) μ3) 10 FU 0 μ rfl (by decide) (fun o ho => absurd ho (Nat.not_lt_zero o))
  rw [show nI 0 = (0 : Int32) from rfl] at e0
  rw [e0]
  obtain ⟨m1, t1, e1, g1⟩ := cn_out wd hd (dH D) FU 0 (fun _ => 0) m0 (Md_sc md t0.m) g0 (fun q => Nat.le_refl 0) (by omega) (show dH D < 8192 by omega)
  rw [show nI 0 = (0 : Int32) from rfl] at e1
  exact ⟨m1, sc48.tr t0 t1, e1, fun o ho => by rw [← ctO_cnt]; exact g1 o ho⟩
theorem leaves_L {μ : Mem} {l d F : Nat} {g : LogD} {D : DoorD} {K : Mem → Option (Int32 × Mem)} (hg : WFg g) (wd : WFd D) (mg : Mg μ l g) (hM : cmM μ (cnt D)) (hl : l < 3) (hF : F ≤ 12) : ∀ (m q k : Nat), k + m = 10 → m < q → ((∀ o, k ≤ o → o < 10 → cnt D o ≠ 0 → F + o < gN g) ∧ f_X10_hasLeaves_L3 (nI d) (nI l) (nI F) K q (nI k) μ = K μ) ∨ (¬ (∀ o, k ≤ o → o < 10 → cnt D o ≠ 0 → F + o < gN g) ∧ f_X10_hasLeaves_L3 (nI d) (nI l) (nI F) K q (nI k) μ = some (0, μ)) := by
  have hN := hg.2.1
  intro m
  induction m with
  | zero =>
    intro q k hk hq
    obtain ⟨q', rfl⟩ : ∃ q', q = q' + 1 := ⟨q - 1, by omega⟩
    have : k = 10 := by omega
    subst this
    left
    exact ⟨fun o h1 h2 => by omega, by rw [f_X10_hasLeaves_L3, if_pos (by decide)]⟩
  | succ m ih =>
    intro q k hk hq
    obtain ⟨q', rfl⟩ : ∃ q', q = q' + 1 := ⟨q - 1, by omega⟩
    have hk10 : ¬ (10 : Int32) ≤ nI k := nI_ge (b := 10) (by omega) (by omega)
    have hc6 := cnt_le wd k
    have skip : F + k < gN g ∨ cnt D k = 0 → ((∀ o, k ≤ o → o < 10 → cnt D o ≠ 0 → F + o < gN g) ∧ f_X10_hasLeaves_L3 (nI d) (nI l) (nI F) K q' (nI (k + 1)) μ = K μ) ∨ (¬ (∀ o, k ≤ o → o < 10 → cnt D o ≠ 0 → F + o < gN g) ∧ f_X10_hasLeaves_L3 (nI d) (nI l) (nI F) K q' (nI (k + 1)) μ = some (0, μ)) := by
      intro hok
      rcases ih q' (k + 1) (by omega) (by omega) with ⟨h1, e⟩ | ⟨h1, e⟩
      · left
        refine ⟨fun o h2 h3 h4 => ?_, e⟩
        by_cases e3 : o = k
        · rw [e3]
          rcases hok with h | h
          · exact h
          · rw [e3] at h4; exact absurd h h4
        · exact h1 o (by omega) h3 h4
      · right
        exact ⟨fun z => h1 (fun o h2 h3 h4 => z o (by omega) h3 h4), e⟩
    rw [f_X10_hasLeaves_L3, if_neg hk10, rI_nI (by omega) (by decide), bi_some, hM k (by omega)]
    by_cases h0 : cnt D k = 0
    · rw [if_pos (by rw [h0]; decide), nI_s]
      exact skip (Or.inr h0)
    · have hpos : ¬ nI (cnt D k) ≤ 0 := by rw [iz0, iz_nat, iz_le (by omega) (by omega) (by omega) (by omega)]; omega
      rw [if_neg hpos, rI_nI hl (by decide), bi_some, mg.1, nI_add]
      have c : nI (F + k) < nI (gN g) ↔ F + k < gN g := by rw [iz_nat, iz_nat, iz_lt (by omega) (by omega) (by omega) (by omega)]; omega
      by_cases h1 : F + k < gN g
      · rw [if_pos (c.mpr h1), nI_s]
        exact skip (Or.inl h1)
      · right
        rw [if_neg (fun z => h1 (c.mp z))]
        exact ⟨fun z => h1 (z k (Nat.le_refl k) (by omega) h0), rfl⟩
theorem least_ex {D : DoorD} (wd : WFd D) : ∃ a, a < 10 ∧ isLeast D a := by
  have hex : ∃ o, o < 10 ∧ cnt D o ≠ 0 := ⟨offs (dC D 0 0), by have := (wd.2.2.2.2.1 0 0 wd.1 wd.2.2.1).1; omega, cnt_pos.mpr ⟨0, 0, wd.1, wd.2.2.1, rfl⟩⟩
  obtain ⟨o, ho, h⟩ := hex
  induction o using Nat.strongRecOn with
  | ind o ih =>
    by_cases q : ∃ p, p < o ∧ cnt D p ≠ 0
    · obtain ⟨p, h1, h2⟩ := q
      exact ih p h1 (by omega) h2
    · refine ⟨o, ho, h, fun p hp => ?_⟩
      apply Classical.byContradiction; intro z; exact q ⟨p, hp, z⟩
theorem great_ex {D : DoorD} (wd : WFd D) : ∃ a, a < 10 ∧ isGreat D a := by
  have hex : ∃ o, o < 10 ∧ cnt D o ≠ 0 := ⟨offs (dC D 0 0), by have := (wd.2.2.2.2.1 0 0 wd.1 wd.2.2.1).1; omega, cnt_pos.mpr ⟨0, 0, wd.1, wd.2.2.1, rfl⟩⟩
  obtain ⟨o, ho, h⟩ := hex
  have key : ∀ m o, o + m = 10 → o < 10 → cnt D o ≠ 0 → ∃ a, a < 10 ∧ isGreat D a := by
    intro m
    induction m using Nat.strongRecOn with
    | ind m ih =>
      intro o h1 h2 h3
      by_cases q : ∃ p, o < p ∧ p < 10 ∧ cnt D p ≠ 0
      · obtain ⟨p, h4, h5, h6⟩ := q
        exact ih (10 - p) (by omega) p (by omega) h5 h6
      · refine ⟨o, h2, h3, fun p hp hp2 => ?_⟩
        apply Classical.byContradiction; intro z; exact q ⟨p, hp, hp2, z⟩
  exact key (10 - o) o (by omega) ho h
theorem pf_L {n : Nat} {σ : St} {μ : Mem} {l d : Nat} {g : LogD} {D : DoorD} (hw : WF n σ) (hn : n < 600) (hg : WFg g) (wd : WFd D) (rp : RP (σS σ) μ l d g D) (hM : cmM μ (cnt D)) (hl : l < 3) (hd : d < 8) : ∀ (m q k : Nat), k + m = gN g → m < q → (f_X10_places_L7 (nI d) (nI l) (fun μ15 => (some ((0 : Int32), μ15))) q (nI k) μ = some (0, μ) ∧ ∀ f y x, k ≤ f → ¬ FT (σS σ) l g D f y x) ∨ ∃ f y x, f_X10_places_L7 (nI d) (nI l) (fun μ15 => (some ((0 : Int32), μ15))) q (nI k) μ = some (1, mfound μ f y x) ∧ k ≤ f ∧ FT (σS σ) l g D f y x ∧ ∀ f2 y2 x2, k ≤ f2 → FT (σS σ) l g D f2 y2 x2 → ¬ (f2 < f ∨ f2 = f ∧ (y2 < y ∨ y2 = y ∧ x2 < x)) := by
  have hN := hg.2.1
  have hlen := hg.2.2.2.1
  have mg := rp.1
  obtain ⟨a, ha, hla⟩ := least_ex wd
  obtain ⟨b, hb, hgb⟩ := great_ex wd
  have hdec : Decidable (apart D g a b) := Int.decLt _ _
  have hex : ∃ o, o < 10 ∧ cnt D o ≠ 0 := ⟨a, ha, hla.1⟩
  intro m
  induction m with
  | zero =>
    intro q k hk hq
    obtain ⟨q', rfl⟩ : ∃ q', q = q' + 1 := ⟨q - 1, by omega⟩
    left
    refine ⟨by rw [f_X10_places_L7, rI_nI hl (by decide), bi_some, mg.1, if_pos (nI_le (by omega) (by omega))], fun f y x hx h => ?_⟩
    have := (h.2 a ha hla.1).1
    omega
  | succ m ih =>
    intro q k hk hq
    obtain ⟨q', rfl⟩ : ∃ q', q = q' + 1 := ⟨q - 1, by omega⟩
    have skip : (∀ y x, ¬ FT (σS σ) l g D k y x) → (f_X10_places_L7 (nI d) (nI l) (fun μ15 => (some ((0 : Int32), μ15))) q' (nI (k + 1)) μ = some (0, μ) ∧ ∀ f y x, k ≤ f → ¬ FT (σS σ) l g D f y x) ∨ ∃ f y x, f_X10_places_L7 (nI d) (nI l) (fun μ15 => (some ((0 : Int32), μ15))) q' (nI (k + 1)) μ = some (1, mfound μ f y x) ∧ k ≤ f ∧ FT (σS σ) l g D f y x ∧ ∀ f2 y2 x2, k ≤ f2 → FT (σS σ) l g D f2 y2 x2 → ¬ (f2 < f ∨ f2 = f ∧ (y2 < y ∨ y2 = y ∧ x2 < x)) := by
      intro hno
      rcases ih q' (k + 1) (by omega) (by omega) with ⟨e2, h4⟩ | ⟨f, y, x, e2, h4, h5, h6⟩
      · left
        refine ⟨e2, fun f y x h7 h8 => ?_⟩
        by_cases e3 : f = k
        · rw [e3] at h8; exact hno y x h8
        · exact h4 f y x (by omega) h8
      · right
        refine ⟨f, y, x, e2, by omega, h5, fun f2 y2 x2 h7 h8 => ?_⟩
        by_cases e3 : f2 = k
        · rw [e3] at h8; exact absurd h8 (hno y2 x2)
        · exact h6 f2 y2 x2 (by omega) h8
    have htn := @hasTonesM μ l d a b g D (k : Int) hg wd rp.1 rp.2.1 hl hd hM ha hb hla hgb (by omega) (by omega) hdec
    rw [f_X10_places_L7, rI_nI hl (by decide), bi_some, mg.1, if_neg (nI_ge (by omega) (by omega))]
    unfold f_X10_hasLeaves
    rcases leaves_L (d := d) (F := k) (K := fun μ6 => bd (f_X10_hasTones (nI d) (nI l) (nI k) μ6) (fun r8 μ7 => (bz r8 μ7))) hg wd mg hM hl (by omega) 10 FU 0 rfl (by decide) with ⟨hF, e⟩ | ⟨hF, e⟩
    · rw [show nI 0 = (0 : Int32) from rfl] at e
      rw [← iz_nat] at htn
      rw [e, htn, bd_some, bz_b01, bd_some]
      by_cases hx : apart D g a b
      · rw [b01_f (fun z => z hx), if_pos rfl, nI_s]
        exact skip (fun y x h => h.1 a b ha hb hla hgb hx)
      · rw [b01_t hx, if_neg (show ¬ (1 : Int32) = 0 by decide)]
        have hall : ∀ a2 b2, a2 < 10 → b2 < 10 → isLeast D a2 → isGreat D b2 → ¬ apart D g a2 b2 := fun a2 b2 h1 h2 h3 h4 => by
          rw [least_eq h3 hla, great_eq h2 hb h4 hgb]; exact hx
        rcases py_L (F := k) (K := fun μ14 => f_X10_places_L7 (nI d) (nI l) (fun μ15 => (some ((0 : Int32), μ15))) q' (nI k + (1 : Int32)) μ14) hw hn hg wd rp hM hl hd (fun o => hF o (Nat.zero_le o)) hex (gLen g) FU 0 (by omega) (show gLen g < 8192 by omega) with ⟨e2, h4⟩ | ⟨y, x, e2, -, h5, h6⟩
        · rw [show nI 0 = (0 : Int32) from rfl] at e2
          rw [e2, nI_s]
          exact skip (fun y x h => h4 y x (Nat.zero_le _) h.2)
        · rw [show nI 0 = (0 : Int32) from rfl] at e2
          right
          refine ⟨k, y, x, e2, Nat.le_refl k, ⟨hall, h5⟩, fun f2 y2 x2 h7 h8 h9 => ?_⟩
          rcases h9 with h9 | ⟨h9, h10⟩
          · omega
          · rw [h9] at h8; exact h6 y2 x2 (Nat.zero_le _) h8.2 h10
    · rw [show nI 0 = (0 : Int32) from rfl] at e
      rw [e, bd_some, if_pos rfl, nI_s]
      exact skip (fun y x h => hF (fun o _ ho hq => (h.2 o ho hq).1))
theorem placesM {n : Nat} {σ : St} {μ : Mem} {l d : Nat} {g : LogD} {D : DoorD} (hw : WF n σ) (hn : n < 600) (hg : WFg g) (wd : WFd D) (rp : RP (σS σ) μ l d g D) (hl : l < 3) (hd : d < 8) : ∃ μ1 r, sc48 μ μ1 ∧ cmM μ1 (cnt D) ∧ isFirst (FT (σS σ) l g D) r ∧ f_X10_places (nI d) (nI l) μ = (match r with
    | none => some (0, μ1)
    | some q => some (1, mfound μ1 q.1 q.2.1 q.2.2)) := by
  have hN := hg.2.1
  obtain ⟨μ1, s1, e1, hM⟩ := countsM wd hd rp.2.1
  unfold f_X10_places
  rw [e1, bi_some]
  rcases pf_L hw hn hg wd (RP_sc rp s1.m) hM hl hd (gN g) FU 0 (by omega) (show gN g < 8192 by omega) with ⟨e, h4⟩ | ⟨f, y, x, e, -, h5, h6⟩
  · rw [show nI 0 = (0 : Int32) from rfl] at e
    exact ⟨μ1, none, s1, hM, fun f y x => h4 f y x (Nat.zero_le _), e⟩
  · rw [show nI 0 = (0 : Int32) from rfl] at e
    exact ⟨μ1, some (f, y, x), s1, hM, ⟨h5, fun f2 y2 x2 => h6 f2 y2 x2 (Nat.zero_le _)⟩, e⟩
theorem step_place {n : Nat} {μc μm : Mem} (S : Sim n μc μm) (hn5 : n < 512) (v1 v2 v3 : Int32) : Both n (f_X9_place v1 v2 v3 μc) (f_X10_place v1 v2 v3 μm) := by
  obtain ⟨σ, hw, hc, hm⟩ := S
  have S : Sim n μc μm := ⟨σ, hw, hc, hm⟩
  unfold f_X9_place f_X10_place
  rcases names v1 (σD σ) 8 with ⟨d, D, hd, rfl, hD⟩ | hn
  · have wd := (hw.2.1 d D hD).2
    rw [doorAt_some hc.2.1 hd hD, isDoor_some hm.2.1 wd hd hD, bd_some, bd_some, oc_some, if_neg (by decide)]
    rcases names v2 (σL σ) 3 with ⟨l, g, hl, rfl, hL⟩ | hn2
    · have hg := (hw.1 l g hL).2
      rw [logAt_some hc.1 hl hL, isLog_some hm.1 hg hl hL, bd_some, bd_some, oc_some, if_neg (by decide), isFrom_eq, bd_some]
      by_cases h3 : (0 : Int32) ≤ v3 ∧ v3 ≤ (2 : Int32)
      · rw [b01_t h3, if_neg (show ¬ (1 : Int32) = 0 by decide), if_neg (Int32.not_lt.mpr h3.1), if_neg (Int32.not_lt.mpr h3.2)]
        obtain ⟨r, hr, e⟩ := findC hw hc hl hL hd hD
        obtain ⟨μ1, r2, s1, -, hr2, e2⟩ := placesM hw (by omega) hg wd (RP_of hm hl hL hd hD) hl hd
        rw [first_eq hr2 hr] at e2
        rw [e, e2]
        cases r with
        | none =>
          simp only
          rw [bd_some, bd_some, if_pos rfl, if_pos rfl]
          exact ⟨_, _, _, rfl, rfl, Sim_sc hw hc hm scC.rf s1.m⟩
        | some q =>
          simp only
          rw [bd_some, bd_some, if_neg (show ¬ (1 : Int32) = 0 by decide), if_neg (show ¬ (1 : Int32) = 0 by decide)]
          obtain ⟨a1, a2, a3⟩ := found_at (μ := μc) (f := q.1) (y := q.2.1) (x := q.2.2)
          obtain ⟨b1, b2, b3⟩ := mfound_at (μ := μ1) (f := q.1) (y := q.2.1) (x := q.2.2)
          rw [a1, a2, a3, b1, b2, b3]
          have hs := Sim_sc hw hc hm (scC_found (μ := μc) (f := q.1) (y := q.2.1) (x := q.2.2)) (scM.tr s1.m (scM_found (μ := μ1) (f := q.1) (y := q.2.1) (x := q.2.2)))
          by_cases c0 : v3 = 0
          · rw [if_pos c0, if_pos c0]; exact ⟨_, _, _, rfl, rfl, hs⟩
          · rw [if_neg c0, if_neg c0]
            by_cases c1 : v3 = 1
            · rw [if_pos c1, if_pos c1]; exact ⟨_, _, _, rfl, rfl, hs⟩
            · rw [if_neg c1, if_neg c1]; exact ⟨_, _, _, rfl, rfl, hs⟩
      · rw [b01_f h3, if_pos rfl]
        by_cases c : v3 < 0
        · rw [if_pos c]; exact Both.keep S _ rfl rfl
        · rw [if_neg c, if_pos (Int32.not_le.mp (fun z => h3 ⟨Int32.not_lt.mp c, z⟩))]; exact Both.keep S _ rfl rfl
    · rw [logAt_none hc.1 hn2, isLog_none hm.1 hn2, bd_some, bd_some, oc_none, if_pos rfl]
      exact Both.keep S _ rfl rfl
  · rw [doorAt_none hc.2.1 hn, isDoor_none hm.2.1 hn, bd_some, bd_some, oc_none, if_pos rfl]
    rcases names v2 (σL σ) 3 with ⟨l, g, hl, rfl, hL⟩ | hn2
    · rw [logAt_some hc.1 hl hL, bd_some, oc_some]
      exact Both.keep S _ rfl rfl
    · rw [logAt_none hc.1 hn2, bd_some, oc_none]
      exact Both.keep S _ rfl rfl
