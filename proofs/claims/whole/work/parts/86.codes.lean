/-! plan: the model goes through the codes -/
def dig : Nat → Nat → List Nat
  | 0, _ => []
  | w+1, c => dig w (c / 3) ++ [c % 3]
theorem dig_len : ∀ w c, (dig w c).length = w := by
  intro w
  induction w with
  | zero => intro c; rfl
  | succ w ih => intro c; show (dig w (c / 3) ++ [c % 3]).length = w + 1; rw [List.length_append, ih]; rfl
theorem dig_lt : ∀ w c, ∀ l ∈ dig w c, l < 3 := by
  intro w
  induction w with
  | zero => intro c l h; cases h
  | succ w ih =>
    intro c l h
    rcases List.mem_append.mp (show l ∈ dig w (c / 3) ++ [c % 3] from h) with h | h
    · exact ih _ l h
    · rw [List.mem_singleton.mp h]; exact Nat.mod_lt _ (by decide)
theorem asg_eq : ∀ w, w < 4 → asg w = (List.range' 0 (3 ^ w)).map (dig w) := by decide
theorem d3 : ∀ c, c < 27 → nI c / 3 = nI (c / 3) ∧ nI c - nI (c / 3) * 3 = nI (c % 3) := by decide
theorem dg_L {v1 v2 v3 v4 v5 : Int32} {K : Mem → Option (Int32 × Mem)} : ∀ (k n c : Nat) (μ : Mem), c < 27 → k ≤ 3 → k < n → ∃ r, f_X10_plan_L105 v1 v2 v3 v4 v5 K n (nI c) (iz ((k : Int) - 1)) μ = K r ∧ (∀ i l, (dig k c)[i]? = some l → r.1 51 i = nI l) ∧ (∀ b, b ≠ 51 → r.1 b = μ.1 b) ∧ (∀ i, k ≤ i → r.1 51 i = μ.1 51 i) := by
  intro k
  induction k with
  | zero =>
    intro n c μ hc hk hn
    obtain ⟨n', rfl⟩ : ∃ n', n = n' + 1 := ⟨n - 1, by omega⟩
    exact ⟨μ, by rw [f_X10_plan_L105, if_pos (by decide)], fun i l hi => (by cases hi), fun _ _ => rfl, fun _ _ => rfl⟩
  | succ k ih =>
    intro n c μ hc hk hn
    obtain ⟨n', rfl⟩ : ∃ n', n = n' + 1 := ⟨n - 1, by omega⟩
    have e1 : iz (((k + 1 : Nat) : Int) - 1) = nI k := by rw [iz_nat]; exact congrArg iz (by omega)
    have h0 : ¬ nI k < 0 := by rw [iz0, iz_nat, iz_lt (by omega) (by omega) (by omega) (by omega)]; omega
    have e2 : nI k + (-1) = iz ((k : Int) - 1) := by rw [iz_nat, show (-1 : Int32) = iz (-1) by decide, iz_add]; exact congrArg iz (by omega)
    obtain ⟨q1, q2⟩ := d3 c hc
    rw [f_X10_plan_L105, e1, if_neg h0, q1, q2, wI_nI (by omega) (by decide), bi_some, e2]
    obtain ⟨r, e, r1, r2, r3⟩ := ih n' (c / 3) (sI μ 51 k (nI (c % 3))) (by omega) (by omega) (by omega)
    refine ⟨r, e, fun i l hi => ?_, fun b hb => by rw [r2 b hb, sI_pl hb], fun i hi => by rw [r3 i (by omega), sI_sl (by omega)]⟩
    have hi' : (dig k (c / 3) ++ [c % 3])[i]? = some l := hi
    by_cases e3 : i = k
    · rw [e3] at hi' ⊢
      rw [List.getElem?_append_right (by rw [dig_len]; exact Nat.le_refl _), dig_len, Nat.sub_self] at hi'
      cases hi'
      rw [r3 k (Nat.le_refl k), sI_same]
    · have hi3 : i < (dig k (c / 3) ++ [c % 3]).length := (List.getElem?_eq_some_iff.mp hi').1
      rw [List.length_append, List.length_singleton, dig_len] at hi3
      rw [List.getElem?_append_left (by rw [dig_len]; omega)] at hi'
      exact r1 i l hi'
theorem lo_L {w : Nat} {K : Int32 → Mem → Option (Int32 × Mem)} {μ : Mem} (hw3 : w ≤ 3) : ∀ (a : List Nat) (n k u : Nat), k + a.length = w → a.length < n → u < 8 → (∀ l ∈ a, l < 3) → (∀ i l, a[i]? = some l → μ.1 51 (k + i) = nI l) → f_X10_logsOf_L4 (nI w) K n (nI u) (nI k) μ = K (nI (msk u a)) μ ∧ msk u a < 8 := by
  intro a
  induction a with
  | nil =>
    intro n k u hk hn hu ha h51
    obtain ⟨n', rfl⟩ : ∃ n', n = n' + 1 := ⟨n - 1, by omega⟩
    rw [List.length_nil] at hk
    exact ⟨by rw [f_X10_logsOf_L4, if_pos (nI_le (by omega) (by omega))]; rfl, hu⟩
  | cons l a ih =>
    intro n k u hk hn hu ha h51
    obtain ⟨n', rfl⟩ : ∃ n', n = n' + 1 := ⟨n - 1, by omega⟩
    rw [List.length_cons] at hk hn
    have hl := ha l List.mem_cons_self
    have e := h51 0 l rfl
    rw [Nat.add_zero] at e
    rw [f_X10_logsOf_L4, if_neg (nI_ge (by omega) (by omega)), rI_nI (by omega) (by decide), bi_some, e, or_sh u hu l hl, nI_s]
    exact ih n' (k + 1) (u ||| 2 ^ l) (by omega) (by omega) (bc_or u hu l hl).2 (fun x hx => ha x (List.mem_cons_of_mem _ hx)) (fun i x hi => by
      rw [show k + 1 + i = k + (i + 1) by omega]; exact h51 (i + 1) x hi)
theorem bcM : ∀ u, u < 8 → ((nI u &&& (1 : Int32)) + ((nI u >>> ((1 : Int32) &&& 31)) &&& (1 : Int32))) + ((nI u >>> ((2 : Int32) &&& 31)) &&& (1 : Int32)) = nI (bc u) := by decide
theorem logsM {μ : Mem} {a : List Nat} (hw3 : a.length ≤ 3) (ha : ∀ l ∈ a, l < 3) (h51 : ∀ i l, a[i]? = some l → μ.1 51 i = nI l) : f_X10_logsOf (nI a.length) μ = some (nI (bc (msk 0 a)), μ) ∧ bc (msk 0 a) ≤ 3 := by
  obtain ⟨e, h⟩ := lo_L (μ := μ) (K := fun w3 μ4 => (some ((((w3 &&& (1 : Int32)) + ((w3 >>> ((1 : Int32) &&& 31)) &&& (1 : Int32))) + ((w3 >>> ((2 : Int32) &&& 31)) &&& (1 : Int32))), μ4))) hw3 a FU 0 0 (by omega) (show a.length < 8192 by omega) (by decide) ha (fun i l hi => by rw [Nat.zero_add]; exact h51 i l hi)
  rw [show nI 0 = (0 : Int32) from rfl] at e
  unfold f_X10_logsOf
  rw [e, bcM _ h]
  exact ⟨rfl, bc_lt _ h⟩
def rlM (w : Nat) (b : Nat × List Nat) (v3 v4 : Int32) : Prop := (b.1 = 4 ∧ v3 = -1) ∨ (b.1 ≤ 3 ∧ v3 = nI b.1 ∧ ∃ c, c < 27 ∧ v4 = nI c ∧ b.2 = dig w c)
theorem code_L {pl : List Strip → Nat → Nat → Option (List Strip)} {σ : St} {m : Nat} {W : List Nat} {K : Int32 → Int32 → Mem → Option (Int32 × Mem)} {N : Nat} (hpl : HP pl (σL σ) (σD σ)) (hw3 : W.length ≤ 3) (hw : WF m σ) (hm : m < 512) (hnd : W.Nodup) (hWd : ∀ d ∈ W, d < 8 ∧ ∃ D, σD σ d = some D ∧ dM D = none) (hN : N ≤ 27) : ∀ (k n c : Nat) (b : Nat × List Nat) (v3 v4 : Int32) (μ : Mem), c + k = N → k < n → RM σ μ → (∀ i d, W[i]? = some d → μ.1 50 i = nI d) → rlM W.length b v3 v4 → ∃ v3' v4' r, f_X10_plan_L90 (nI W.length) (nI N) K n v3 v4 (nI c) μ = K v3' v4' r ∧ RM σ r ∧ r.1 50 = μ.1 50 ∧ rlM W.length (((List.range' c k).map (dig W.length)).foldl (stp pl (σS σ) W 0 []) b) v3' v4' := by
  intro k
  induction k with
  | zero =>
    intro n c b v3 v4 μ hc hn hr h50 hb
    obtain ⟨n', rfl⟩ : ∃ n', n = n' + 1 := ⟨n - 1, by omega⟩
    exact ⟨v3, v4, μ, by rw [f_X10_plan_L90, if_pos (nI_le (by omega) (by omega))], hr, rfl, hb⟩
  | succ k ih =>
    intro n c b v3 v4 μ hc hn hr h50 hb
    obtain ⟨n', rfl⟩ : ∃ n', n = n' + 1 := ⟨n - 1, by omega⟩
    have e1 : nI W.length - 1 = iz ((W.length : Int) - 1) := by rw [iz_nat, show (1 : Int32) = iz 1 by decide, iz_sub]
    rw [List.range'_succ, List.map_cons, List.foldl_cons]
    obtain ⟨A, hA⟩ : ∃ A, A = dig W.length c := ⟨_, rfl⟩
    have hAl : A.length = W.length := by rw [hA, dig_len]
    have hA3 : ∀ l ∈ A, l < 3 := by rw [hA]; exact dig_lt _ _
    rw [← hA]
    have fin : ∀ (b' : Nat × List Nat) (v3' v4' : Int32) (s : Mem), RM σ s → s.1 50 = μ.1 50 → rlM W.length b' v3' v4' → ∃ v3'' v4'' r, f_X10_plan_L90 (nI W.length) (nI N) K n' v3' v4' (nI (c + 1)) s = K v3'' v4'' r ∧ RM σ r ∧ r.1 50 = μ.1 50 ∧ rlM W.length (((List.range' (c + 1) k).map (dig W.length)).foldl (stp pl (σS σ) W 0 []) b') v3'' v4'' := by
      intro b' v3' v4' s hs h5 hb'
      obtain ⟨x, y, r, e, h1, h2, h3⟩ := ih n' (c + 1) b' v3' v4' s (by omega) (by omega) hs (fun i d hi => by rw [h5]; exact h50 i d hi) hb'
      exact ⟨x, y, r, e, h1, h2.trans h5, h3⟩
    rw [f_X10_plan_L90, if_neg (nI_ge (by omega) (by omega)), e1]
    obtain ⟨s, es, s1, s2, -⟩ := dg_L (v1 := nI W.length) (v2 := nI N) (v3 := v3) (v4 := v4) (v5 := nI c) (K := fun μ16 => (if v3 = (-1 : Int32) then bd (f_X10_isPlaced (nI W.length) μ16) (fun r19 μ18 => (if r19 = 0 then f_X10_plan_L90 (nI W.length) (nI N) K n' v3 v4 (nI c + (1 : Int32)) μ18 else bd (f_X10_logsOf (nI W.length) μ18) (fun r22 μ21 => f_X10_plan_L90 (nI W.length) (nI N) K n' r22 (nI c) (nI c + (1 : Int32)) μ21))) else bd (f_X10_logsOf (nI W.length) μ16) (fun r24 μ23 => (if v3 ≤ r24 then f_X10_plan_L90 (nI W.length) (nI N) K n' v3 v4 (nI c + (1 : Int32)) μ23 else bd (f_X10_isPlaced (nI W.length) μ23) (fun r27 μ26 => (if r27 = 0 then f_X10_plan_L90 (nI W.length) (nI N) K n' v3 v4 (nI c + (1 : Int32)) μ26 else bd (f_X10_logsOf (nI W.length) μ26) (fun r30 μ29 => f_X10_plan_L90 (nI W.length) (nI N) K n' r30 (nI c) (nI c + (1 : Int32)) μ29))))))) W.length FU c μ (by omega) hw3 (show W.length < 8192 by omega)
    rw [es, nI_s]
    have hrs : RM σ s := RM_sc hr ⟨fun b h1 h2 => s2 b (by omega), fun j _ => by rw [s2 0 (by decide)]⟩
    have s50 : s.1 50 = μ.1 50 := s2 50 (by decide)
    have s51 : ∀ i l, A[i]? = some l → s.1 51 i = nI l := fun i l hi => s1 i l (by rw [← hA]; exact hi)
    obtain ⟨r, er, hrr, r50, r51⟩ := placedM (a := A) hpl hw3 hAl.symm hw hm hrs (fun i d hi => by rw [s50]; exact h50 i d hi) s51 hA3 hnd hWd
    have r51' : ∀ i l, A[i]? = some l → r.1 51 i = nI l := fun i l hi => by rw [r51]; exact s51 i l hi
    have lg1 := logsM (μ := s) (a := A) (by omega) hA3 s51
    have lg2 := logsM (μ := r) (a := A) (by omega) hA3 r51'
    rw [hAl] at lg1 lg2
    have hne : ∀ x, x ≤ 3 → ¬ nI x = (-1 : Int32) := fun x hx => by
      rw [show (-1 : Int32) = iz (-1) by decide, iz_nat]
      exact fun z => by have := (iz_eq (by omega) (by omega) (by omega) (by omega)).mp z; omega
    have hst : stp pl (σS σ) W 0 [] b A = if bc (msk 0 A) < b.1 ∧ okA pl (σS σ) W A = true then (bc (msk 0 A), A) else b := rfl
    rw [hst]
    rcases hb with ⟨hb1, rfl⟩ | ⟨hb1, rfl, hb2⟩
    · rw [if_pos rfl, er, bd_some]
      by_cases ho : okA pl (σS σ) W A = true
      · rw [b01_t ho, if_neg (show ¬ (1 : Int32) = 0 by decide), lg2.1, bd_some, if_pos ⟨by have := lg2.2; omega, ho⟩]
        exact fin _ _ _ r hrr (r50.trans s50) (Or.inr ⟨lg2.2, rfl, c, by omega, rfl, hA⟩)
      · rw [b01_f ho, if_pos rfl, if_neg (fun z => ho z.2)]
        exact fin _ _ _ r hrr (r50.trans s50) (Or.inl ⟨hb1, rfl⟩)
    · rw [if_neg (hne _ hb1), lg1.1, bd_some]
      have cl : nI b.1 ≤ nI (bc (msk 0 A)) ↔ b.1 ≤ bc (msk 0 A) := by
        have := lg1.2
        rw [iz_nat, iz_nat, iz_le (by omega) (by omega) (by omega) (by omega)]; omega
      by_cases hle : b.1 ≤ bc (msk 0 A)
      · rw [if_pos (cl.mpr hle), if_neg (fun z => by have := z.1; omega)]
        exact fin _ _ _ s hrs s50 (Or.inr ⟨hb1, rfl, hb2⟩)
      · rw [if_neg (fun z => hle (cl.mp z)), er, bd_some]
        by_cases ho : okA pl (σS σ) W A = true
        · rw [b01_t ho, if_neg (show ¬ (1 : Int32) = 0 by decide), lg2.1, bd_some, if_pos ⟨by omega, ho⟩]
          exact fin _ _ _ r hrr (r50.trans s50) (Or.inr ⟨lg2.2, rfl, c, by omega, rfl, hA⟩)
        · rw [b01_f ho, if_pos rfl, if_neg (fun z => ho z.2)]
          exact fin _ _ _ r hrr (r50.trans s50) (Or.inr ⟨hb1, rfl, hb2⟩)
