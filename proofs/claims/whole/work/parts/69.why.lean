/-! why: counts of offsets met, and the class's loops -/
def inc (M : Nat → Nat) (o : Nat) : Nat → Nat := fun q => if q = o then M q + 1 else M q
theorem inc_le {M : Nat → Nat} {o B : Nat} (h : ∀ q, M q ≤ B) : ∀ q, inc M o q ≤ B + 1 := by
  intro q; unfold inc; have := h q; split <;> omega
def ctR (D : DoorD) (r : Nat) : Nat → Nat → (Nat → Nat) → (Nat → Nat)
  | 0, _, M => M
  | m + 1, c, M => ctR D r m (c + 1) (inc M (offs (dC D c r)))
def ctO (D : DoorD) : Nat → Nat → (Nat → Nat) → (Nat → Nat)
  | 0, _, M => M
  | m + 1, r, M => ctO D m (r + 1) (ctR D r (dW D) 0 M)
theorem ctR_le {D : DoorD} {r : Nat} : ∀ (m c B : Nat) (M : Nat → Nat), (∀ q, M q ≤ B) → ∀ q, ctR D r m c M q ≤ B + m := by
  intro m
  induction m with
  | zero => intro c B M h q; exact h q
  | succ m ih =>
    intro c B M h q
    have := ih (c + 1) (B + 1) (inc M (offs (dC D c r))) (inc_le h) q
    show ctR D r m (c + 1) _ q ≤ _
    omega
theorem ctR_eq {D : DoorD} {r o : Nat} : ∀ (m c : Nat) (M : Nat → Nat), ctR D r m c M o = M o + (List.range' c m).countP (fun c => offs (dC D c r) == o) := by
  intro m
  induction m with
  | zero => intro c M; rfl
  | succ m ih =>
    intro c M
    show ctR D r m (c + 1) _ o = _
    rw [ih, List.range'_succ, List.countP_cons]
    unfold inc
    by_cases h : o = offs (dC D c r)
    · rw [if_pos h, if_pos (by simp [h])]; omega
    · rw [if_neg h, if_neg (by simp; exact fun q => h q.symm)]; omega
theorem ctO_eq {D : DoorD} {o : Nat} : ∀ (m r : Nat) (M : Nat → Nat), ctO D m r M o = M o + ((List.range' r m).map (fun r => (List.range (dW D)).countP (fun c => offs (dC D c r) == o))).sum := by
  intro m
  induction m with
  | zero => intro r M; simp [ctO]
  | succ m ih =>
    intro r M
    show ctO D m (r + 1) _ o = _
    rw [ih, List.range'_succ, List.map_cons, List.sum_cons, ctR_eq, ← List.range_eq_range']; omega
theorem ctO_cnt {D : DoorD} {o : Nat} : ctO D (dH D) 0 (fun _ => 0) o = cnt D o := by
  rw [ctO_eq, ← List.range_eq_range']; unfold cnt; omega
theorem cnt_le {D : DoorD} (wd : WFd D) (o : Nat) : cnt D o ≤ 64 := by
  have h : ∀ (m r B : Nat) (M : Nat → Nat), (∀ q, M q ≤ B) → ∀ q, ctO D m r M q ≤ B + m * dW D := by
    intro m
    induction m with
    | zero => intro r B M h q; have := h q; show M q ≤ _; omega
    | succ m ih =>
      intro r B M h q
      have := ih (r + 1) (B + dW D) _ (ctR_le (D := D) (r := r) (dW D) 0 B M h) q
      show ctO D m (r + 1) _ q ≤ _
      rw [Nat.succ_mul]; omega
  have h1 := h (dH D) 0 0 (fun _ => 0) (fun _ => Nat.le_refl 0) o
  rw [ctO_cnt] at h1
  have h2 : dH D * dW D ≤ 8 * 8 := Nat.mul_le_mul wd.2.2.2.1 wd.2.1
  omega
/-- the answer over a row's rest, and over the rows' rest -/
def whR (rv : Nat → Nat → Int32) (D : DoorD) (r : Nat) : Nat → Nat → (Nat → Nat) → Int32
  | 0, _, _ => 0
  | m + 1, c, M => if rv (offs (dC D c r)) (M (offs (dC D c r))) = 0 then whR rv D r m (c + 1) (inc M (offs (dC D c r))) else rv (offs (dC D c r)) (M (offs (dC D c r)))
def whO (rv : Nat → Nat → Int32) (D : DoorD) : Nat → Nat → (Nat → Nat) → Int32
  | 0, _, _ => 0
  | m + 1, r, M => if whR rv D r (dW D) 0 M = 0 then whO rv D m (r + 1) (ctR D r (dW D) 0 M) else whR rv D r (dW D) 0 M
def rvV (σ : St) (l : Nat) (g : LogD) (D : DoorD) (v3 v4 v5 : Int32) (o k : Nat) : Int32 := rcV σ l g D (v3.toInt + o) (v4.toInt + k * dPh D) v5.toInt
theorem off9 {v : Nat} (h : v < 64) (ho : offs v ≤ 9) : iMin (nI v &&& 15) 9 = nI (offs v) := by
  rw [and15 h, show (9 : Int32) = iz 9 from rfl, iz_nat, iMin_iz (by omega) (by omega) (by omega) (by omega), Int.min_eq_left (by omega)]
theorem offsetAt_eq {μ : Mem} {a c r : Nat} {D : DoorD} (wd : WFd D) (hcell : ∀ c r, c < dW D → r < dH D → μ.1 (a + 1) (8 * r + c) = nI (dC D c r)) (hc : c < dW D) (hr : r < dH D) : f_X1_offsetAt a (nI c) (nI r) μ = some (nI (offs (dC D c r)), μ) := by
  have w2 := wd.2.1
  have w4 := wd.2.2.2.1
  have w5 := wd.2.2.2.2.1 c r hc hr
  unfold f_X1_offsetAt
  rw [cellAt_eq (by omega) (by omega), bd_some, hcell c r hc hr, off9 w5.2 w5.1]
theorem mul64 {a b : Int64} {x y : Int} (ha : a.toInt = x) (hb : b.toInt = y) (h1 : -9223372036854775808 ≤ x * y) (h2 : x * y < 9223372036854775808) : (a * b).toInt = x * y := by
  rw [Int64.toInt_mul, ha, hb]
  exact Int.bmod_eq_of_le (by omega) (by omega)
def cmC (μ : Mem) (M : Nat → Nat) : Prop := ∀ o, o < 10 → μ.1 10 o = nI (M o)
theorem cmC_inc {μ : Mem} {M : Nat → Nat} {o : Nat} (h : cmC μ M) : cmC (sI μ 10 o (nI (M o + 1))) (inc M o) := by
  intro q hq
  rw [sI_at]
  unfold inc
  by_cases e : q = o
  · rw [if_pos ⟨rfl, e⟩, if_pos e, e]
  · rw [if_neg (fun z => e z.2), if_neg e]; exact h q hq
theorem scC_10 {μ : Mem} {o : Nat} {v : Int32} : scC μ (sI μ 10 o v) := ⟨fun b _ _ _ _ h _ _ _ _ => sI_pl h, by rw [sI_pl (by decide)], by rw [sI_pl (by decide)], rfl⟩
theorem mh_rng {k h : Nat} (h1 : k ≤ 64) (h2 : h ≤ 60) : k * h ≤ 3840 := Nat.le_trans (Nat.mul_le_mul h1 h2) (by decide)
theorem why_in {n : Nat} {σ : St} {l d : Nat} {g : LogD} {D : DoorD} {v3 v4 v5 : Int32} {K : Mem → Option (Int32 × Mem)} {r : Nat} (hw : WF n σ) (hl : l < 3) (hL : σL σ l = some g) (hd : d < 8) (hD : σD σ d = some D) (hr : r < dH D) : ∀ (m k c B : Nat) (M : Nat → Nat) (μ : Mem), RC σ μ → cmC μ M → (∀ q, M q ≤ B) → B + m ≤ 64 → c + m = dW D → m < k → ∃ μ', scC μ μ' ∧ f_X2_reason_L26 (56 + 4 * d) (11 + 15 * l) v3 v4 v5 (nI r) K k (nI c) μ = (if whR (rvV σ l g D v3 v4 v5) D r m c M = 0 then K μ' else some (whR (rvV σ l g D v3 v4 v5) D r m c M, μ')) ∧ (whR (rvV σ l g D v3 v4 v5) D r m c M = 0 → cmC μ' (ctR D r m c M)) := by
  have wd := (hw.2.1 d D hD).2
  have w2 := wd.2.1
  have w4 := wd.2.2.2.1
  obtain ⟨-, -, -, -, wc, p1, p2, p3, p4, -⟩ := wd
  have wd := (hw.2.1 d D hD).2
  intro m
  induction m with
  | zero =>
    intro k c B M μ hc hM hB hB2 hcm hk
    obtain ⟨k', rfl⟩ : ∃ k', k = k' + 1 := ⟨k - 1, by omega⟩
    have cd : Cd μ (56 + 4 * d) D := by have := hc.2.1 d hd; rw [hD] at this; exact this
    refine ⟨μ, scC.rf, ?_, fun _ => hM⟩
    rw [f_X2_reason_L26, cd.2.1, if_pos (nI_le (by omega) (by omega))]; rfl
  | succ m ih =>
    intro k c B M μ hc hM hB hB2 hcm hk
    obtain ⟨k', rfl⟩ : ∃ k', k = k' + 1 := ⟨k - 1, by omega⟩
    have cd : Cd μ (56 + 4 * d) D := by have := hc.2.1 d hd; rw [hD] at this; exact this
    have ho := (wc c r (by omega) hr).1
    have hb := hB (offs (dC D c r))
    have hmh := mh_rng (k := M (offs (dC D c r))) (h := dPh D) (by omega) p4
    have r3 := i32_rng v3
    have r4 := i32_rng v4
    have e1 : ((Int32.toInt64 v3) + (Int32.toInt64 (nI (offs (dC D c r))))).toInt = v3.toInt + (offs (dC D c r) : Nat) := add64 (toI64 v3) (by rw [toI64, nI_toInt (by omega)]) (by omega) (by omega)
    have e2 : ((Int32.toInt64 v4) + (Int32.toInt64 (nI (M (offs (dC D c r))) * nI (dPh D)))).toInt = v4.toInt + ((M (offs (dC D c r)) : Nat) : Int) * (dPh D : Nat) := by
      rw [pk_mul]
      have := add64 (a := Int32.toInt64 v4) (b := Int32.toInt64 (nI (M (offs (dC D c r)) * dPh D))) (toI64 v4) (by rw [toI64, nI_toInt (by omega)]) (by omega) (by omega)
      rw [this]; simp
    have hv : rcV σ l g D ((Int32.toInt64 v3) + (Int32.toInt64 (nI (offs (dC D c r))))).toInt ((Int32.toInt64 v4) + (Int32.toInt64 (nI (M (offs (dC D c r))) * nI (dPh D)))).toInt v5.toInt = rvV σ l g D v3 v4 v5 (offs (dC D c r)) (M (offs (dC D c r))) := by
      rw [e1, e2]; rfl
    rw [f_X2_reason_L26, cd.2.1, if_neg (nI_ge (by omega) (by omega)), offsetAt_eq wd cd.2.2.2.1 (by omega) hr, bd_some, rI_nI (by omega) (by decide), bi_some, hM _ (by omega), cd.2.2.2.2.2.1, reasonC hw hc hl hL wd cd.2.2.2.2.1 cd.2.2.2.2.2.1, bd_some, hv]
    show ∃ μ', scC μ μ' ∧ _ = (if (if rvV σ l g D v3 v4 v5 (offs (dC D c r)) (M (offs (dC D c r))) = 0 then whR (rvV σ l g D v3 v4 v5) D r m (c + 1) (inc M (offs (dC D c r))) else rvV σ l g D v3 v4 v5 (offs (dC D c r)) (M (offs (dC D c r)))) = 0 then K μ' else some ((if rvV σ l g D v3 v4 v5 (offs (dC D c r)) (M (offs (dC D c r))) = 0 then whR (rvV σ l g D v3 v4 v5) D r m (c + 1) (inc M (offs (dC D c r))) else rvV σ l g D v3 v4 v5 (offs (dC D c r)) (M (offs (dC D c r)))), μ')) ∧ ((if rvV σ l g D v3 v4 v5 (offs (dC D c r)) (M (offs (dC D c r))) = 0 then whR (rvV σ l g D v3 v4 v5) D r m (c + 1) (inc M (offs (dC D c r))) else rvV σ l g D v3 v4 v5 (offs (dC D c r)) (M (offs (dC D c r)))) = 0 → cmC μ' (ctR D r m (c + 1) (inc M (offs (dC D c r)))))
    by_cases h0 : rvV σ l g D v3 v4 v5 (offs (dC D c r)) (M (offs (dC D c r))) = 0
    · simp only [if_pos h0]
      rw [rI_nI (by omega) (by decide), bi_some, hM _ (by omega), wI_nI (by omega) (by decide), bi_some, nI_s, nI_s]
      obtain ⟨μ', q1, q2, q3⟩ := ih k' (c + 1) (B + 1) (inc M (offs (dC D c r))) _ (RC_sc hw hc scC_10) (cmC_inc hM) (inc_le hB) (by omega) (by omega) (by omega)
      exact ⟨μ', scC.tr scC_10 q1, q2, q3⟩
    · simp only [if_neg h0]
      exact ⟨μ, scC.rf, rfl, fun q => absurd q h0⟩
theorem why_out {n : Nat} {σ : St} {l d : Nat} {g : LogD} {D : DoorD} {v3 v4 v5 : Int32} {K : Mem → Option (Int32 × Mem)} (hw : WF n σ) (hl : l < 3) (hL : σL σ l = some g) (hd : d < 8) (hD : σD σ d = some D) : ∀ (m k r : Nat) (M : Nat → Nat) (μ : Mem), RC σ μ → cmC μ M → (∀ q, M q ≤ 8 * r) → r + m = dH D → m < k → ∃ μ', scC μ μ' ∧ f_X2_reason_L11 (56 + 4 * d) (11 + 15 * l) v3 v4 v5 K k (nI r) μ = (if whO (rvV σ l g D v3 v4 v5) D m r M = 0 then K μ' else some (whO (rvV σ l g D v3 v4 v5) D m r M, μ')) ∧ (whO (rvV σ l g D v3 v4 v5) D m r M = 0 → cmC μ' (ctO D m r M)) := by
  have wd := (hw.2.1 d D hD).2
  have w2 := wd.2.1
  have w4 := wd.2.2.2.1
  intro m
  induction m with
  | zero =>
    intro k r M μ hc hM hB hcm hk
    obtain ⟨k', rfl⟩ : ∃ k', k = k' + 1 := ⟨k - 1, by omega⟩
    have cd : Cd μ (56 + 4 * d) D := by have := hc.2.1 d hd; rw [hD] at this; exact this
    refine ⟨μ, scC.rf, ?_, fun _ => hM⟩
    rw [f_X2_reason_L11, cd.2.2.1, if_pos (nI_le (by omega) (by omega))]; rfl
  | succ m ih =>
    intro k r M μ hc hM hB hcm hk
    obtain ⟨k', rfl⟩ : ∃ k', k = k' + 1 := ⟨k - 1, by omega⟩
    have cd : Cd μ (56 + 4 * d) D := by have := hc.2.1 d hd; rw [hD] at this; exact this
    rw [f_X2_reason_L11, cd.2.2.1, if_neg (nI_ge (by omega) (by omega))]
    obtain ⟨μ1, q1, q2, q3⟩ := why_in (v3 := v3) (v4 := v4) (v5 := v5) (K := fun μ12 => f_X2_reason_L11 (56 + 4 * d) (11 + 15 * l) v3 v4 v5 K k' (nI r + 1) μ12) (r := r) hw hl hL hd hD (by omega) (dW D) FU 0 (8 * r) M μ hc hM hB (by omega) (by omega) (show dW D < 8192 by omega)
    rw [show (0 : Int32) = nI 0 from rfl] at *
    rw [q2]
    by_cases h0 : whR (rvV σ l g D v3 v4 v5) D r (dW D) 0 M = nI 0
    · rw [if_pos h0]
      have hB2 : ∀ q, ctR D r (dW D) 0 M q ≤ 8 * (r + 1) := fun q => by have := ctR_le (D := D) (r := r) (dW D) 0 (8 * r) M hB q; omega
      obtain ⟨μ2, q4, q5, q6⟩ := ih k' (r + 1) _ μ1 (RC_sc hw hc q1) (q3 h0) hB2 (by omega) (by omega)
      refine ⟨μ2, scC.tr q1 q4, ?_, ?_⟩
      · rw [nI_s, q5]
        show _ = if (if whR (rvV σ l g D v3 v4 v5) D r (dW D) 0 M = nI 0 then whO (rvV σ l g D v3 v4 v5) D m (r + 1) (ctR D r (dW D) 0 M) else whR (rvV σ l g D v3 v4 v5) D r (dW D) 0 M) = nI 0 then K μ2 else some ((if whR (rvV σ l g D v3 v4 v5) D r (dW D) 0 M = nI 0 then whO (rvV σ l g D v3 v4 v5) D m (r + 1) (ctR D r (dW D) 0 M) else whR (rvV σ l g D v3 v4 v5) D r (dW D) 0 M), μ2)
        rw [if_pos h0]
      · intro hz
        have hz2 : (if whR (rvV σ l g D v3 v4 v5) D r (dW D) 0 M = nI 0 then whO (rvV σ l g D v3 v4 v5) D m (r + 1) (ctR D r (dW D) 0 M) else whR (rvV σ l g D v3 v4 v5) D r (dW D) 0 M) = nI 0 := hz
        rw [if_pos h0] at hz2
        exact q6 hz2
    · have hz : whO (rvV σ l g D v3 v4 v5) D (m + 1) r M = whR (rvV σ l g D v3 v4 v5) D r (dW D) 0 M := if_neg h0
      rw [hz, if_neg h0]
      exact ⟨μ1, q1, (if_neg h0).symm, fun q => absurd q h0⟩
