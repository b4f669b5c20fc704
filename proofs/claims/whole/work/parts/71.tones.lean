/-! why: the model's rows, and the tones -/
theorem wm_out {n : Nat} {σ : St} {l d : Nat} {g : LogD} {D : DoorD} {v3 v4 v5 : Int32} {K : Mem → Option (Int32 × Mem)} (hw : WF n σ) (hn : n < 600) (hl : l < 3) (hL : σL σ l = some g) (hd : d < 8) (hD : σD σ d = some D) : ∀ (m k r : Nat) (M : Nat → Nat) (μ : Mem), RM σ μ → cmM μ M → (∀ q, M q ≤ 8 * r) → r + m = dH D → m < k → ∃ μ', scM μ μ' ∧ f_X10_why_L45 (nI d) (nI l) v3 v4 v5 K k (nI r) μ = (if whO (rvV σ l g D v3 v4 v5) D m r M = 0 then K μ' else some (whO (rvV σ l g D v3 v4 v5) D m r M, μ')) ∧ (whO (rvV σ l g D v3 v4 v5) D m r M = 0 → cmM μ' (ctO D m r M)) := by
  have wd := (hw.2.1 d D hD).2
  have w2 := wd.2.1
  have w4 := wd.2.2.2.1
  intro m
  induction m with
  | zero =>
    intro k r M μ hm hM hB hcm hk
    obtain ⟨k', rfl⟩ : ∃ k', k = k' + 1 := ⟨k - 1, by omega⟩
    have md : Md μ d D := by have := hm.2.1 d hd; rw [hD] at this; exact this
    refine ⟨μ, scM.rf, ?_, fun _ => hM⟩
    rw [f_X10_why_L45, rI_nI hd (by decide), bi_some, md.2.1, if_pos (nI_le (by omega) (by omega))]; rfl
  | succ m ih =>
    intro k r M μ hm hM hB hcm hk
    obtain ⟨k', rfl⟩ : ∃ k', k = k' + 1 := ⟨k - 1, by omega⟩
    have md : Md μ d D := by have := hm.2.1 d hd; rw [hD] at this; exact this
    rw [f_X10_why_L45, rI_nI hd (by decide), bi_some, md.2.1, if_neg (nI_ge (by omega) (by omega))]
    obtain ⟨μ1, q1, q2, q3⟩ := wm_in (v3 := v3) (v4 := v4) (v5 := v5) (K := fun μ12 => f_X10_why_L45 (nI d) (nI l) v3 v4 v5 K k' (nI r + 1) μ12) (r := r) hw hn hl hL hd hD (by omega) (dW D) FU 0 (8 * r) M μ hm hM hB (by omega) (by omega) (show dW D < 8192 by omega)
    rw [show (0 : Int32) = nI 0 from rfl] at *
    rw [q2]
    by_cases h0 : whR (rvV σ l g D v3 v4 v5) D r (dW D) 0 M = nI 0
    · rw [if_pos h0]
      have hB2 : ∀ q, ctR D r (dW D) 0 M q ≤ 8 * (r + 1) := fun q => by have := ctR_le (D := D) (r := r) (dW D) 0 (8 * r) M hB q; omega
      obtain ⟨μ2, q4, q5, q6⟩ := ih k' (r + 1) _ μ1 (RM_sc hm q1) (q3 h0) hB2 (by omega) (by omega)
      refine ⟨μ2, scM.tr q1 q4, ?_, ?_⟩
      · rw [nI_s, q5]
        show _ = if (if whR (rvV σ l g D v3 v4 v5) D r (dW D) 0 M = nI 0 then whO (rvV σ l g D v3 v4 v5) D m (r + 1) (ctR D r (dW D) 0 M) else whR (rvV σ l g D v3 v4 v5) D r (dW D) 0 M) = nI 0 then K μ2 else some ((if whR (rvV σ l g D v3 v4 v5) D r (dW D) 0 M = nI 0 then whO (rvV σ l g D v3 v4 v5) D m (r + 1) (ctR D r (dW D) 0 M) else whR (rvV σ l g D v3 v4 v5) D r (dW D) 0 M), μ2)
        rw [if_pos h0]
      · intro hz
        have hz2 : (if whR (rvV σ l g D v3 v4 v5) D r (dW D) 0 M = nI 0 then whO (rvV σ l g D v3 v4 v5) D m (r + 1) (ctR D r (dW D) 0 M) else whR (rvV σ l g D v3 v4 v5) D r (dW D) 0 M) = nI 0 := hz
        rw [if_pos h0] at hz2
        exact q6 hz2
    · have hz : whO (rvV σ l g D v3 v4 v5) D (m + 1) r M = whR (rvV σ l g D v3 v4 v5) D r (dW D) 0 M := if_neg h0
      rw [hz, if_neg h0]
      exact ⟨μ1, q1, (if_neg h0).symm, fun q => absurd q h0⟩
/-- a leaf's tone -/
def tn (g : LogD) (F : Int) (k : Nat) : Int := gT g + (F + k) * gD g
theorem tn_rng {g : LogD} (hg : WFg g) {F : Int} {k : Nat} (h1 : -9 ≤ F) (h2 : F ≤ 12) (hk : k < 10) : -1000 ≤ tn g F k ∧ tn g F k ≤ 1000 := by
  have ht := hg.2.2.2.2.2.2.2.2.1
  have := mul_rng (a := F + k) (b := gD g) (A := 21) (B := 5) (by omega) (by omega) hg.2.2.2.2.2.2.2.2.2.1 hg.2.2.2.2.2.2.2.2.2.2.1 (by omega) (by omega)
  unfold tn; omega
def tI (M : Nat → Nat) (g : LogD) (F : Int) (k : Nat) (lo hi : Int) (any : Int32) : Prop := (any = 0 ∧ ∀ q, q < k → M q = 0) ∨ (any = 1 ∧ (∃ q, q < k ∧ M q ≠ 0 ∧ lo = tn g F q) ∧ (∃ q, q < k ∧ M q ≠ 0 ∧ hi = tn g F q) ∧ ∀ q, q < k → M q ≠ 0 → lo ≤ tn g F q ∧ tn g F q ≤ hi)
theorem tones_L {μ : Mem} {d l : Nat} {g : LogD} {F : Int} {M : Nat → Nat} {K : Int32 → Int32 → Mem → Option (Int32 × Mem)} (hg : WFg g) (mg : Mg μ l g) (hl : l < 3) (hM : cmM μ M) (hM6 : ∀ q, M q ≤ 64) (h1 : -9 ≤ F) (h2 : F ≤ 12) : ∀ (m n k : Nat) (lo hi : Int) (any : Int32), k + m = 10 → m < n → tI M g F k lo hi any → -1000 ≤ lo → lo ≤ 1000 → -1000 ≤ hi → hi ≤ 1000 → ∃ lo' hi' any', f_X10_hasTones_L12 (nI d) (nI l) (iz F) K n (iz lo) (iz hi) any (nI k) μ = K (iz lo') (iz hi') μ ∧ tI M g F 10 lo' hi' any' := by
  intro m
  induction m with
  | zero =>
    intro n k lo hi any hk hn hI b1 b2 b3 b4
    obtain ⟨n', rfl⟩ : ∃ n', n = n' + 1 := ⟨n - 1, by omega⟩
    have : k = 10 := by omega
    subst this
    exact ⟨lo, hi, any, by rw [f_X10_hasTones_L12, if_pos (by decide)], hI⟩
  | succ m ih =>
    intro n k lo hi any hk hn hI b1 b2 b3 b4
    obtain ⟨n', rfl⟩ : ∃ n', n = n' + 1 := ⟨n - 1, by omega⟩
    have hk10 : ¬ (10 : Int32) ≤ nI k := nI_ge (b := 10) (by omega) (by omega)
    rw [f_X10_hasTones_L12, if_neg hk10, rI_nI (by omega) (by decide), bi_some, hM k (by omega), nI_s]
    by_cases hz : M k = 0
    · rw [if_pos (by rw [hz]; rfl)]
      refine ih n' (k + 1) lo hi any (by omega) (by omega) ?_ b1 b2 b3 b4
      rcases hI with ⟨a1, a2⟩ | ⟨a1, ⟨q1, a2, a3, a4⟩, ⟨q2, a5, a6, a7⟩, a8⟩
      · left
        refine ⟨a1, fun q hq => ?_⟩
        by_cases e : q = k
        · rw [e]; exact hz
        · exact a2 q (by omega)
      · right
        refine ⟨a1, ⟨q1, by omega, a3, a4⟩, ⟨q2, by omega, a6, a7⟩, fun q hq hq2 => ?_⟩
        by_cases e : q = k
        · rw [e] at hq2; exact absurd hz hq2
        · exact a8 q (by omega) hq2
    · have hM64 := hM6 k
      have hnz : ¬ nI (M k) = 0 := fun q => hz (nI_inj (b := 0) (by omega) (by omega) q)
      have ht := tn_rng hg (F := F) (k := k) h1 h2 (by omega)
      have etn : f_X10_toneOf (nI l) (iz F + nI k) μ = some (iz (tn g F k), μ) := by
        unfold f_X10_toneOf
        rw [rI_nI hl (by decide), bi_some, rI_nI hl (by decide), bi_some, mg.2.2.2.2.1, mg.2.2.2.2.2.1, iz_nat, iz_nat, iz_add, iz_mul, iz_add]; rfl
      rw [if_neg hnz, etn, bd_some]
      have new : ∀ lo2 hi2, (∃ q, q < k + 1 ∧ M q ≠ 0 ∧ lo2 = tn g F q) → (∃ q, q < k + 1 ∧ M q ≠ 0 ∧ hi2 = tn g F q) → (∀ q, q < k + 1 → M q ≠ 0 → lo2 ≤ tn g F q ∧ tn g F q ≤ hi2) → tI M g F (k + 1) lo2 hi2 1 := fun lo2 hi2 x1 x2 x3 => Or.inr ⟨rfl, x1, x2, x3⟩
      rcases hI with ⟨a1, a2⟩ | ⟨a1, ⟨q1, a2, a3, a4⟩, ⟨q2, a5, a6, a7⟩, a8⟩
      · rw [a1, if_pos rfl]
        refine ih n' (k + 1) _ _ 1 (by omega) (by omega) (new _ _ ⟨k, by omega, hz, rfl⟩ ⟨k, by omega, hz, rfl⟩ fun q hq hq2 => ?_) (by omega) (by omega) (by omega) (by omega)
        by_cases e : q = k
        · rw [e]; exact ⟨Int.le_refl _, Int.le_refl _⟩
        · exact absurd (a2 q (by omega)) hq2
      · rw [a1, if_neg (show ¬ (1 : Int32) = 0 by decide)]
        have all : ∀ lo2 hi2 : Int, lo2 ≤ lo → hi ≤ hi2 → lo2 ≤ tn g F k → tn g F k ≤ hi2 → ∀ q, q < k + 1 → M q ≠ 0 → lo2 ≤ tn g F q ∧ tn g F q ≤ hi2 := by
          intro lo2 hi2 x1 x2 x3 x4 q hq hq2
          by_cases e : q = k
          · rw [e]; exact ⟨x3, x4⟩
          · have := a8 q (by omega) hq2; omega
        have c1 : iz lo ≤ iz (tn g F k) ↔ lo ≤ tn g F k := iz_le (by omega) (by omega) (by omega) (by omega)
        have c2 : iz (tn g F k) ≤ iz hi ↔ tn g F k ≤ hi := iz_le (by omega) (by omega) (by omega) (by omega)
        by_cases d1 : lo ≤ tn g F k
        · rw [if_pos (c1.mpr d1)]
          by_cases d2 : tn g F k ≤ hi
          · rw [if_pos (c2.mpr d2)]
            exact ih n' (k + 1) _ _ 1 (by omega) (by omega) (new _ _ ⟨q1, by omega, a3, a4⟩ ⟨q2, by omega, a6, a7⟩ (all _ _ (by omega) (by omega) (by omega) (by omega))) (by omega) (by omega) (by omega) (by omega)
          · rw [if_neg (fun z => d2 (c2.mp z))]
            exact ih n' (k + 1) _ _ 1 (by omega) (by omega) (new _ _ ⟨q1, by omega, a3, a4⟩ ⟨k, by omega, hz, rfl⟩ (all _ _ (by omega) (by omega) (by omega) (by omega))) (by omega) (by omega) (by omega) (by omega)
        · rw [if_neg (fun z => d1 (c1.mp z))]
          by_cases d2 : tn g F k ≤ hi
          · rw [if_pos (c2.mpr d2)]
            exact ih n' (k + 1) _ _ 1 (by omega) (by omega) (new _ _ ⟨k, by omega, hz, rfl⟩ ⟨q2, by omega, a6, a7⟩ (all _ _ (by omega) (by omega) (by omega) (by omega))) (by omega) (by omega) (by omega) (by omega)
          · rw [if_neg (fun z => d2 (c2.mp z))]
            exact ih n' (k + 1) _ _ 1 (by omega) (by omega) (new _ _ ⟨k, by omega, hz, rfl⟩ ⟨k, by omega, hz, rfl⟩ (all _ _ (by omega) (by omega) (by omega) (by omega))) (by omega) (by omega) (by omega) (by omega)
/-- are the tones apart? -/
def apart (D : DoorD) (g : LogD) (a b : Nat) : Prop := (dT D : Int) < ((b : Int) - a) * (gD g).natAbs
theorem spread {g : LogD} {F lo hi : Int} {M : Nat → Nat} {a b : Nat} {any : Int32} (ha : a < 10) (hb : b < 10) (ha1 : M a ≠ 0) (ha2 : ∀ q, q < a → M q = 0) (hb1 : M b ≠ 0) (hb2 : ∀ q, b < q → q < 10 → M q = 0) (hI : tI M g F 10 lo hi any) : hi - lo = ((b : Int) - a) * (gD g).natAbs := by
  rcases hI with ⟨_, h⟩ | ⟨_, ⟨q1, a2, a3, a4⟩, ⟨q2, a5, a6, a7⟩, a8⟩
  · exact absurd (h a ha) ha1
  · have x1 : a ≤ q1 := by
      apply Classical.byContradiction; intro h; exact a3 (ha2 q1 (by omega))
    have x2 : q1 ≤ b := by
      apply Classical.byContradiction; intro h; exact a3 (hb2 q1 (by omega) a2)
    have x3 : a ≤ q2 := by
      apply Classical.byContradiction; intro h; exact a6 (ha2 q2 (by omega))
    have x4 : q2 ≤ b := by
      apply Classical.byContradiction; intro h; exact a6 (hb2 q2 (by omega) a5)
    have y1 := a8 a ha ha1
    have y2 := a8 b hb hb1
    subst a4 a7
    unfold tn at *
    by_cases hd : 0 ≤ gD g
    · have z1 : (F + a) * gD g ≤ (F + q1) * gD g := Int.mul_le_mul_of_nonneg_right (by omega) hd
      have z2 : (F + q2) * gD g ≤ (F + b) * gD g := Int.mul_le_mul_of_nonneg_right (by omega) hd
      have z3 : ((gD g).natAbs : Int) = gD g := by omega
      rw [z3]
      have z4 : ((b : Int) - a) * gD g = (F + b) * gD g - (F + a) * gD g := by rw [← Int.sub_mul]; congr 1; omega
      omega
    · have z1 : (F + q1) * gD g ≥ (F + b) * gD g := Int.mul_le_mul_of_nonpos_right (by omega) (by omega)
      have z2 : (F + a) * gD g ≥ (F + q2) * gD g := Int.mul_le_mul_of_nonpos_right (by omega) (by omega)
      have z3 : ((gD g).natAbs : Int) = - gD g := by omega
      rw [z3]
      have z4 : ((b : Int) - a) * -gD g = (F + a) * gD g - (F + b) * gD g := by rw [← Int.sub_mul, Int.mul_neg, ← Int.neg_mul]; congr 1; omega
      omega
theorem hasTonesM {μ : Mem} {l d a b : Nat} {g : LogD} {D : DoorD} {F : Int} (hg : WFg g) (wd : WFd D) (mg : Mg μ l g) (md : Md μ d D) (hl : l < 3) (hd : d < 8) (hM : cmM μ (cnt D)) (ha : a < 10) (hb : b < 10) (hla : isLeast D a) (hgb : isGreat D b) (h1 : -9 ≤ F) (h2 : F ≤ 12) [Decidable (apart D g a b)] : f_X10_hasTones (nI d) (nI l) (iz F) μ = some (b01 (¬ apart D g a b), μ) := by
  unfold f_X10_hasTones
  obtain ⟨lo, hi, any, e, hI⟩ := tones_L (d := d) (K := fun w10 w11 μ12 => (rI μ12 8 43 (nI d)).bind (fun e13 => (if e13 < (w11 - w10) then (some ((0 : Int32), μ12)) else (some ((1 : Int32), μ12))))) hg mg hl hM (cnt_le wd) h1 h2 10 FU 0 0 0 0 rfl (by decide) (Or.inl ⟨rfl, fun q h => absurd h (Nat.not_lt_zero q)⟩) (by omega) (by omega) (by omega) (by omega)
  have hs := spread ha hb hla.1 hla.2 hgb.1 hgb.2 hI
  have e' := e
  rw [← iz0, show nI 0 = (0 : Int32) from rfl] at e'
  rw [e', rI_nI hd (by decide), bi_some, md.2.2.2.2.2.1, iz_sub, hs, iz_nat]
  have wt := wd.2.2.2.2.2.2.2.2.2
  have g1 := hg.2.2.2.2.2.2.2.2.2.1
  have g2 := hg.2.2.2.2.2.2.2.2.2.2.1
  have hab : a ≤ b := by
    apply Classical.byContradiction; intro h; exact hgb.1 (hla.2 b (by omega))
  have hr := mul_rng (a := (b : Int) - a) (b := ((gD g).natAbs : Int)) (A := 10) (B := 5) (by omega) (by omega) (by omega) (by omega) (by omega) (by omega)
  have c := iz_lt (a := (dT D : Int)) (b := ((b : Int) - a) * ((gD g).natAbs : Int)) (by omega) (by omega) (by omega) (by omega)
  by_cases hx : apart D g a b
  · rw [if_pos (c.mpr hx), b01_f (fun z => z hx)]
  · rw [if_neg (fun z => hx (c.mp z)), b01_t hx]
theorem hasTones_eq {n : Nat} {σ : St} {μ : Mem} {l d a b : Nat} {g : LogD} {D : DoorD} {F : Int} (hw : WF n σ) (hm : RM σ μ) (hl : l < 3) (hL : σL σ l = some g) (hd : d < 8) (hD : σD σ d = some D) (hM : cmM μ (cnt D)) (ha : a < 10) (hb : b < 10) (hla : isLeast D a) (hgb : isGreat D b) (h1 : -9 ≤ F) (h2 : F ≤ 12) [Decidable (apart D g a b)] : f_X10_hasTones (nI d) (nI l) (iz F) μ = some (b01 (¬ apart D g a b), μ) := by
  have mg : Mg μ l g := by have := hm.1 l hl; rw [hL] at this; exact this
  have md : Md μ d D := by have := hm.2.1 d hd; rw [hD] at this; exact this
  exact hasTonesM (hw.1 l g hL).2 (hw.2.1 d D hD).2 mg md hl hd hM ha hb hla hgb h1 h2
theorem iAbs_iz {z : Int} (h1 : -1000 ≤ z) (h2 : z ≤ 1000) : iAbs (iz z) = iz z.natAbs := by
  unfold iAbs
  rw [iz0, iz_sub]
  by_cases h : 0 ≤ z
  · rw [if_pos ((iz_le (by omega) (by omega) (by omega) (by omega)).mpr h)]
    congr 1; omega
  · rw [if_neg (fun q => h ((iz_le (by omega) (by omega) (by omega) (by omega)).mp q))]
    congr 1; omega
theorem apartC {n : Nat} {σ : St} {μ : Mem} {l d a b : Nat} {g : LogD} {D : DoorD} (hw : WF n σ) (hc : RC σ μ) (hl : l < 3) (hL : σL σ l = some g) (hd : d < 8) (hD : σD σ d = some D) (ha : a < 10) (hb : b < 10) (hla : isLeast D a) (hgb : isGreat D b) (e6 : μ.1 (56 + 4 * d) 6 = nI a) (e7 : μ.1 (56 + 4 * d) 7 = nI b) [Decidable (apart D g a b)] : f_X2_areTonesApart (56 + 4 * d) (11 + 15 * l) μ = some (b01 (apart D g a b), μ) := by
  have wd := (hw.2.1 d D hD).2
  have hg := (hw.1 l g hL).2
  have cg : Cg μ (11 + 15 * l) g := by have := hc.1 l hl; rw [hL] at this; exact this
  have cd : Cd μ (56 + 4 * d) D := by have := hc.2.1 d hd; rw [hD] at this; exact this
  have wt := wd.2.2.2.2.2.2.2.2.2
  have g1 := hg.2.2.2.2.2.2.2.2.2.1
  have g2 := hg.2.2.2.2.2.2.2.2.2.2.1
  have hab : a ≤ b := by
    apply Classical.byContradiction; intro h; exact hgb.1 (hla.2 b (by omega))
  have hr := mul_rng (a := (b : Int) - a) (b := ((gD g).natAbs : Int)) (A := 10) (B := 5) (by omega) (by omega) (by omega) (by omega) (by omega) (by omega)
  unfold f_X2_areTonesApart
  rw [e6, e7, cg.2.2.2.2.2.2.1, cd.2.2.2.2.2.2.1, iAbs_iz (by omega) (by omega), iz_nat, iz_nat, iz_nat, iz_sub, iz_mul]
  have c := iz_le (a := ((b : Int) - a) * ((gD g).natAbs : Int)) (b := (dT D : Int)) (by omega) (by omega) (by omega) (by omega)
  by_cases hx : apart D g a b
  · have hx2 := hx
    unfold apart at hx2
    rw [if_neg (fun z => by have := c.mp z; omega), b01_t hx]
  · have hx2 := hx
    unfold apart at hx2
    rw [if_pos (c.mpr (by omega)), b01_f hx]
