/-! plan: the doors that wait; what is told -/
def wtg (σ : St) (d : Nat) : Bool := match σD σ d with
  | none => false
  | some D => (dM D).isNone
def gw (σ : St) : Nat → Nat → List Nat → Option (List Nat)
  | 0, _, A => some A
  | m+1, d, A => if wtg σ d = true then (if A.length = 3 then none else gw σ m (d + 1) (A ++ [d])) else gw σ m (d + 1) A
theorem gw_ok {σ : St} : ∀ (m d : Nat) (A B : List Nat), gw σ m d A = some B → A.length ≤ 3 → A.Nodup → (∀ x ∈ A, x < d ∧ wtg σ x = true) → B.length ≤ 3 ∧ B.Nodup ∧ ∀ x ∈ B, x < d + m ∧ wtg σ x = true := by
  intro m
  induction m with
  | zero => intro d A B h h1 h2 h3; cases h; exact ⟨h1, h2, h3⟩
  | succ m ih =>
    intro d A B h h1 h2 h3
    have h' : (if wtg σ d = true then (if A.length = 3 then none else gw σ m (d + 1) (A ++ [d])) else gw σ m (d + 1) A) = some B := h
    have fin : ∀ C : List Nat, gw σ m (d + 1) C = some B → C.length ≤ 3 → C.Nodup → (∀ x ∈ C, x < d + 1 ∧ wtg σ x = true) → B.length ≤ 3 ∧ B.Nodup ∧ ∀ x ∈ B, x < d + (m + 1) ∧ wtg σ x = true := by
      intro C hC c1 c2 c3
      obtain ⟨a, b, c⟩ := ih (d + 1) C B hC c1 c2 c3
      exact ⟨a, b, fun x hx => ⟨by have := (c x hx).1; omega, (c x hx).2⟩⟩
    by_cases hq : wtg σ d = true
    · rw [if_pos hq] at h'
      by_cases h4 : A.length = 3
      · rw [if_pos h4] at h'; cases h'
      · rw [if_neg h4] at h'
        refine fin _ h' (by rw [List.length_append, List.length_singleton]; omega) ?_ (fun x hx => ?_)
        · rw [List.nodup_append]
          refine ⟨h2, by simp, fun a ha b hb e => ?_⟩
          rw [List.mem_singleton] at hb
          have := (h3 a ha).1
          omega
        · rcases List.mem_append.mp hx with hx | hx
          · exact ⟨by have := (h3 x hx).1; omega, (h3 x hx).2⟩
          · rw [List.mem_singleton.mp hx]; exact ⟨by omega, hq⟩
    · rw [if_neg hq] at h'
      exact fin _ h' h1 h2 (fun x hx => ⟨by have := (h3 x hx).1; omega, (h3 x hx).2⟩)
theorem row_app {μ : Mem} {p d : Nat} {A : List Nat} (h : ∀ i x, A[i]? = some x → μ.1 p i = nI x) : ∀ i x, (A ++ [d])[i]? = some x → (sI μ p A.length (nI d)).1 p i = nI x := by
  intro i x hi
  by_cases e : i = A.length
  · rw [e, List.getElem?_concat_length] at hi
    cases hi
    rw [e, sI_same]
  · have hi3 : i < (A ++ [d]).length := (List.getElem?_eq_some_iff.mp hi).1
    rw [List.length_append, List.length_singleton] at hi3
    rw [List.getElem?_append_left (by omega)] at hi
    rw [sI_sl e]; exact h i x hi
theorem gaC {σ : St} {nn : Nat} {K : Mem → Option (Int32 × Mem)} (hw : WF nn σ) : ∀ (m n d : Nat) (A : List Nat) (μ : Mem), d + m = 8 → m < n → RC σ μ → A.length ≤ 3 → μ.1 88 5 = nI A.length → (∀ i x, A[i]? = some x → μ.1 90 i = nI x) → ∃ r, RC σ r ∧ match gw σ m d A with
    | none => f_X5_gatherWaiting_L7 K n (nI d) μ = some (0, r)
    | some B => f_X5_gatherWaiting_L7 K n (nI d) μ = K r ∧ r.1 88 5 = nI B.length ∧ ∀ i x, B[i]? = some x → r.1 90 i = nI x := by
  intro m
  induction m with
  | zero =>
    intro n d A μ hd hn hc hA h5 h90
    obtain ⟨n', rfl⟩ : ∃ n', n = n' + 1 := ⟨n - 1, by omega⟩
    have : d = 8 := by omega
    subst this
    exact ⟨μ, hc, by rw [f_X5_gatherWaiting_L7, if_pos (by decide)], h5, h90⟩
  | succ m ih =>
    intro n d A μ hd hn hc hA h5 h90
    obtain ⟨n', rfl⟩ : ∃ n', n = n' + 1 := ⟨n - 1, by omega⟩
    have hd8 : d < 8 := by omega
    have hk8 : ¬ (8 : Int32) ≤ nI d := nI_ge (b := 8) (by omega) (by omega)
    have H := hc.2.1 d hd8
    rw [f_X5_gatherWaiting_L7, if_neg hk8, rR_nI hd8 (by decide), bi_some, bi_some]
    show ∃ r, RC σ r ∧ match (if wtg σ d = true then (if A.length = 3 then none else gw σ m (d + 1) (A ++ [d])) else gw σ m (d + 1) A) with
      | none => _
      | some B => _
    cases hD : σD σ d with
    | none =>
      rw [hD] at H
      have hq : ¬ wtg σ d = true := by unfold wtg; rw [hD]; exact Bool.false_ne_true
      rw [if_neg hq, if_pos H.1, nI_s]
      exact ih n' (d + 1) A μ (by omega) (by omega) hc hA h5 h90
    | some D =>
      rw [hD] at H
      have H' : Cd μ (56 + 4 * d) D := H
      have h2 : ¬ μ.1 (56 + 4 * d) 2 = 0 := by rw [H'.1]; decide
      have c11 := H'.2.2.2.2.2.2.2.2.2.2
      rw [if_neg h2]
      cases hM : dM D with
      | none =>
        rw [hM] at c11
        have hq : wtg σ d = true := by unfold wtg; rw [hD]; simp only [hM]; rfl
        rw [made_no c11.1, bd_some, if_pos rfl, if_pos hq, h5]
        have c3 : nI A.length = (3 : Int32) ↔ A.length = 3 := by
          rw [show (3 : Int32) = iz 3 by decide, iz_nat, iz_eq (by omega) (by omega) (by omega) (by omega)]; omega
        by_cases h3 : A.length = 3
        · rw [if_pos (c3.mpr h3), if_pos h3]
          exact ⟨μ, hc, rfl⟩
        · rw [if_neg (fun z => h3 (c3.mp z)), if_neg h3, wI_nI (by omega) (by decide), bi_some, sI_pl (show (88 : Nat) ≠ 90 by decide), h5, nI_s, nI_s]
          obtain ⟨M, hMe⟩ : ∃ M, M = sI (sI μ 90 A.length (nI d)) 88 5 (nI (A.length + 1)) := ⟨_, rfl⟩
          rw [← hMe]
          have hs : scC μ M := ⟨fun p _ _ _ _ _ h88 h90 _ _ => by rw [hMe, sI_pl h88, sI_pl h90], by rw [hMe, sI_pl (by decide), sI_pl (by decide)], by rw [hMe, sI_pl (by decide), sI_pl (by decide)], by rw [hMe]; rfl⟩
          exact ih n' (d + 1) (A ++ [d]) M (by omega) (by omega) (RC_sc hw hc hs) (by rw [List.length_append, List.length_singleton]; omega) (by rw [hMe, sI_same, List.length_append, List.length_singleton]) (fun i x hi => by rw [hMe, sI_pl (by decide)]; exact row_app h90 i x hi)
      | some q =>
        rw [hM] at c11
        have hq : ¬ wtg σ d = true := by unfold wtg; rw [hD]; simp only [hM]; exact Bool.false_ne_true
        rw [made_yes (WF_made hw hD hM).1 c11.1, bd_some, if_neg (show ¬ (1 : Int32) = 0 by decide), if_neg hq, nI_s]
        exact ih n' (d + 1) A μ (by omega) (by omega) hc hA h5 h90
theorem gaM {σ : St} {nn : Nat} {K : Int32 → Mem → Option (Int32 × Mem)} (hw : WF nn σ) : ∀ (m n d : Nat) (A : List Nat) (μ : Mem), d + m = 8 → m < n → RM σ μ → A.length ≤ 3 → (∀ i x, A[i]? = some x → μ.1 50 i = nI x) → ∃ r, RM σ r ∧ match gw σ m d A with
    | none => f_X10_plan_L4 K n (nI A.length) (nI d) μ = some (-1, r)
    | some B => f_X10_plan_L4 K n (nI A.length) (nI d) μ = K (nI B.length) r ∧ ∀ i x, B[i]? = some x → r.1 50 i = nI x := by
  intro m
  induction m with
  | zero =>
    intro n d A μ hd hn hc hA h50
    obtain ⟨n', rfl⟩ : ∃ n', n = n' + 1 := ⟨n - 1, by omega⟩
    have : d = 8 := by omega
    subst this
    exact ⟨μ, hc, by rw [f_X10_plan_L4, if_pos (by decide)], h50⟩
  | succ m ih =>
    intro n d A μ hd hn hc hA h50
    obtain ⟨n', rfl⟩ : ∃ n', n = n' + 1 := ⟨n - 1, by omega⟩
    have hd8 : d < 8 := by omega
    have hk8 : ¬ (8 : Int32) ≤ nI d := nI_ge (b := 8) (by omega) (by omega)
    have H := hc.2.1 d hd8
    rw [f_X10_plan_L4, if_neg hk8]
    show ∃ r, RM σ r ∧ match (if wtg σ d = true then (if A.length = 3 then none else gw σ m (d + 1) (A ++ [d])) else gw σ m (d + 1) A) with
      | none => _
      | some B => _
    cases hD : σD σ d with
    | none =>
      have hq : ¬ wtg σ d = true := by unfold wtg; rw [hD]; exact Bool.false_ne_true
      rw [isDoor_none hc.2.1 (fun l h1 e => by rw [← nI_inj (by omega) (by omega) e]; exact hD), bd_some, if_pos rfl, if_neg hq, nI_s]
      exact ih n' (d + 1) A μ (by omega) (by omega) hc hA h50
    | some D =>
      rw [hD] at H
      have H' : Md μ d D := H
      have m7 := H'.2.2.2.2.2.2
      rw [isDoor_some hc.2.1 (hw.2.1 d D hD).2 hd8 hD, bd_some, if_neg (show ¬ (1 : Int32) = 0 by decide), rI_nI hd8 (by decide), bi_some]
      cases hM : dM D with
      | none =>
        rw [hM] at m7
        have hq : wtg σ d = true := by unfold wtg; rw [hD]; simp only [hM]; rfl
        rw [m7, if_pos rfl, if_pos hq]
        have c3 : nI A.length = (3 : Int32) ↔ A.length = 3 := by
          rw [show (3 : Int32) = iz 3 by decide, iz_nat, iz_eq (by omega) (by omega) (by omega) (by omega)]; omega
        by_cases h3 : A.length = 3
        · rw [if_pos (c3.mpr h3), if_pos h3]
          exact ⟨μ, hc, rfl⟩
        · rw [if_neg (fun z => h3 (c3.mp z)), if_neg h3, wI_nI (by omega) (by decide), bi_some, nI_s, nI_s]
          have hs : scM μ (sI μ 50 A.length (nI d)) := ⟨fun b _ h => sI_pl (by omega), fun j _ => by rw [sI_pl (by decide)]⟩
          have := ih n' (d + 1) (A ++ [d]) (sI μ 50 A.length (nI d)) (by omega) (by omega) (RM_sc hc hs) (by rw [List.length_append, List.length_singleton]; omega) (row_app h50)
          rw [List.length_append, List.length_singleton] at this
          exact this
      | some q =>
        rw [hM] at m7
        have hq : ¬ wtg σ d = true := by unfold wtg; rw [hD]; simp only [hM]; exact Bool.false_ne_true
        rw [m7.1, if_neg (m1_ne (WF_made hw hD hM).1), if_neg hq, nI_s]
        exact ih n' (d + 1) A μ (by omega) (by omega) hc hA h50
def pT : List Nat → List Nat → Nat → Int
  | x :: A, l :: B, d => if x = d then (l : Int) else pT A B d
  | _, _, _ => -1
theorem pT_in : ∀ (A B : List Nat) (i x l : Nat), A.Nodup → A[i]? = some x → B[i]? = some l → pT A B x = l := by
  intro A
  induction A with
  | nil => intro B i x l _ h; cases h
  | cons y A ih =>
    intro B i x l hn hA hB
    cases B with
    | nil => cases hB
    | cons k B =>
      show (if y = x then (k : Int) else pT A B x) = l
      cases i with
      | zero => cases hA; cases hB; rw [if_pos rfl]
      | succ i =>
        have hA' : A[i]? = some x := hA
        have hB' : B[i]? = some l := hB
        have : y ≠ x := fun z => (List.nodup_cons.mp hn).1 (by rw [z]; exact List.mem_of_getElem? hA')
        rw [if_neg this]
        exact ih B i x l (List.nodup_cons.mp hn).2 hA' hB'
theorem pT_out : ∀ (A B : List Nat) (x : Nat), x ∉ A → pT A B x = -1 := by
  intro A
  induction A with
  | nil => intro B x _; unfold pT; rfl
  | cons y A ih =>
    intro B x h
    cases B with
    | nil => unfold pT; rfl
    | cons k B =>
      show (if y = x then (k : Int) else pT A B x) = -1
      rw [if_neg (fun z => h (by rw [z]; exact List.mem_cons_self))]
      exact ih B x (fun z => h (List.mem_cons_of_mem _ z))
theorem nd_inj {A : List Nat} (h : A.Nodup) {i j x : Nat} (h1 : A[i]? = some x) (h2 : A[j]? = some x) : i = j := by
  obtain ⟨a1, b1⟩ := List.getElem?_eq_some_iff.mp h1
  obtain ⟨a2, b2⟩ := List.getElem?_eq_some_iff.mp h2
  have hp := List.pairwise_iff_getElem.mp h
  rcases Nat.lt_trichotomy i j with q | q | q
  · exact absurd (b1.trans b2.symm) (hp i j a1 a2 q)
  · exact q
  · exact absurd (b2.trans b1.symm) (hp j i a2 a1 q)
theorem teC {A B : List Nat} {K : Mem → Option (Int32 × Mem)} (hA3 : A.length ≤ 3) (hAB : B.length = A.length) (hnd : A.Nodup) (hA8 : ∀ x ∈ A, x < 8) : ∀ (m n k : Nat) (μ : Mem), k + m = A.length → m < n → μ.1 88 5 = nI A.length → (∀ i x, A[i]? = some x → μ.1 90 i = nI x) → (∀ i l, B[i]? = some l → μ.1 92 i = nI l) → ∃ r, f_X5_tell_L41 K n (nI k) μ = K r ∧ (∀ p, p ≠ 89 → r.1 p = μ.1 p) ∧ r.2 = μ.2 ∧ (∀ i x l, k ≤ i → A[i]? = some x → B[i]? = some l → r.1 89 x = nI l) ∧ (∀ x, (∀ i, k ≤ i → A[i]? ≠ some x) → r.1 89 x = μ.1 89 x) := by
  intro m
  induction m with
  | zero =>
    intro n k μ hk hn h5 h90 h92
    obtain ⟨n', rfl⟩ : ∃ n', n = n' + 1 := ⟨n - 1, by omega⟩
    refine ⟨μ, by rw [f_X5_tell_L41, h5, if_pos (nI_le (by omega) (by omega))], fun _ _ => rfl, rfl, fun i x l hi h => ?_, fun _ _ => rfl⟩
    have := (List.getElem?_eq_some_iff.mp h).1
    omega
  | succ m ih =>
    intro n k μ hk hn h5 h90 h92
    obtain ⟨n', rfl⟩ : ∃ n', n = n' + 1 := ⟨n - 1, by omega⟩
    obtain ⟨x, hx⟩ : ∃ x, A[k]? = some x := ⟨_, List.getElem?_eq_getElem (by omega)⟩
    obtain ⟨l, hl⟩ : ∃ l, B[k]? = some l := ⟨_, List.getElem?_eq_getElem (by omega)⟩
    have hx8 := hA8 x (List.mem_of_getElem? hx)
    rw [f_X5_tell_L41, h5, if_neg (nI_ge (by omega) (by omega)), rI_nI (by omega) (by decide), bi_some, rI_nI (by omega) (by decide), bi_some, h90 k x hx, h92 k l hl, wI_nI hx8 (by decide), bi_some, nI_s]
    obtain ⟨r, e, r1, r2, r3, r4⟩ := ih n' (k + 1) (sI μ 89 x (nI l)) (by omega) (by omega) (by rw [sI_pl (by decide)]; exact h5) (fun i y hi => by rw [sI_pl (by decide)]; exact h90 i y hi) (fun i y hi => by rw [sI_pl (by decide)]; exact h92 i y hi)
    refine ⟨r, e, fun p hp => by rw [r1 p hp, sI_pl hp], r2, fun i y l2 hi h1 h2 => ?_, fun y hy => ?_⟩
    · by_cases ek : i = k
      · rw [ek] at h1 h2
        rw [hx] at h1; rw [hl] at h2
        cases h1; cases h2
        rw [r4 x (fun j hj z => by have := nd_inj hnd hx z; omega), sI_same]
      · exact r3 i y l2 (by omega) h1 h2
    · rw [r4 y (fun j hj => hy j (by omega)), sI_sl (fun z => hy k (Nat.le_refl k) (by rw [z]; exact hx))]
theorem teM0 {v1 v3 v4 : Int32} {K : Mem → Option (Int32 × Mem)} : ∀ (m n k : Nat) (μ : Mem), k + m = 8 → m < n → (∀ d, d < k → μ.1 49 d = -1) → ∃ r, f_X10_plan_L185 v1 v3 v4 K n (nI k) μ = K r ∧ (∀ p, p ≠ 49 → r.1 p = μ.1 p) ∧ ∀ d, d < 8 → r.1 49 d = -1 := by
  intro m
  induction m with
  | zero =>
    intro n k μ hk hn h
    obtain ⟨n', rfl⟩ : ∃ n', n = n' + 1 := ⟨n - 1, by omega⟩
    have : k = 8 := by omega
    subst this
    exact ⟨μ, by rw [f_X10_plan_L185, if_pos (by decide)], fun _ _ => rfl, h⟩
  | succ m ih =>
    intro n k μ hk hn h
    obtain ⟨n', rfl⟩ : ∃ n', n = n' + 1 := ⟨n - 1, by omega⟩
    have hk8 : ¬ (8 : Int32) ≤ nI k := nI_ge (b := 8) (by omega) (by omega)
    rw [f_X10_plan_L185, if_neg hk8, wI_nI (by omega) (by decide), bi_some, nI_s]
    obtain ⟨r, e, r1, r2⟩ := ih n' (k + 1) (sI μ 49 k (-1)) (by omega) (by omega) (fun d hd => by
      by_cases z : d = k
      · rw [z, sI_same]
      · rw [sI_sl z]; exact h d (by omega))
    exact ⟨r, e, fun p hp => by rw [r1 p hp, sI_pl hp], r2⟩
theorem teM {A : List Nat} {v3 : Int32} {K : Mem → Option (Int32 × Mem)} (hnd : A.Nodup) (hA8 : ∀ x ∈ A, x < 8) : ∀ (k n c : Nat) (μ : Mem), k ≤ 3 → k ≤ A.length → k < n → c < 27 → (∀ i x, A[i]? = some x → μ.1 50 i = nI x) → ∃ r, f_X10_plan_L211 v3 K n (nI c) (iz ((k : Int) - 1)) μ = K r ∧ (∀ p, p ≠ 49 → r.1 p = μ.1 p) ∧ (∀ (i x l : Nat), A[i]? = some x → (dig k c)[i]? = some l → r.1 49 x = nI l) ∧ (∀ x, (∀ i, i < k → A[i]? ≠ some x) → r.1 49 x = μ.1 49 x) := by
  intro k
  induction k with
  | zero =>
    intro n c μ hk hkA hn hc h50
    obtain ⟨n', rfl⟩ : ∃ n', n = n' + 1 := ⟨n - 1, by omega⟩
    exact ⟨μ, by rw [f_X10_plan_L211, if_pos (by decide)], fun _ _ => rfl, fun i x l _ hi => (by cases hi), fun _ _ => rfl⟩
  | succ k ih =>
    intro n c μ hk hkA hn hc h50
    obtain ⟨n', rfl⟩ : ∃ n', n = n' + 1 := ⟨n - 1, by omega⟩
    have e1 : iz (((k + 1 : Nat) : Int) - 1) = nI k := by rw [iz_nat]; exact congrArg iz (by omega)
    have h0 : ¬ nI k < 0 := by rw [iz0, iz_nat, iz_lt (by omega) (by omega) (by omega) (by omega)]; omega
    have e2 : nI k + (-1) = iz ((k : Int) - 1) := by rw [iz_nat, show (-1 : Int32) = iz (-1) by decide, iz_add]; exact congrArg iz (by omega)
    obtain ⟨q1, q2⟩ := d3 c hc
    obtain ⟨x, hx⟩ : ∃ x, A[k]? = some x := ⟨_, List.getElem?_eq_getElem (by omega)⟩
    have hx8 := hA8 x (List.mem_of_getElem? hx)
    rw [f_X10_plan_L211, e1, if_neg h0, rI_nI (by omega) (by decide), bi_some, h50 k x hx, q1, q2, wI_nI hx8 (by decide), bi_some, e2]
    obtain ⟨r, e, r1, r2, r3⟩ := ih n' (c / 3) (sI μ 49 x (nI (c % 3))) (by omega) (by omega) (by omega) (by omega) (fun i y hi => by rw [sI_pl (by decide)]; exact h50 i y hi)
    refine ⟨r, e, fun p hp => by rw [r1 p hp, sI_pl hp], fun i y l hy hi => ?_, fun y hy => ?_⟩
    · have hi' : (dig k (c / 3) ++ [c % 3])[i]? = some l := hi
      by_cases e3 : i = k
      · rw [e3] at hi' hy
        rw [hx] at hy; cases hy
        rw [List.getElem?_append_right (by rw [dig_len]; exact Nat.le_refl _), dig_len, Nat.sub_self] at hi'
        cases hi'
        rw [r3 x (fun j hj z => by have := nd_inj hnd hx z; omega), sI_same]
      · have hi3 : i < (dig k (c / 3) ++ [c % 3]).length := (List.getElem?_eq_some_iff.mp hi').1
        rw [List.length_append, List.length_singleton, dig_len] at hi3
        rw [List.getElem?_append_left (by rw [dig_len]; omega)] at hi'
        exact r2 i y l hy hi'
    · rw [r3 y (fun j hj => hy j (by omega)), sI_sl (fun z => hy k (by omega) (by rw [z]; exact hx))]
