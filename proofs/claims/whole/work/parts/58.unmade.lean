/-! doors that are no more made of a log -/
def unm (l : Nat) (D : DoorD) : DoorD := (dW D, dH D, dC D, dPw D, dPh D, dT D, match dM D with
  | none => none
  | some q => if q.1 = l then none else some q)
theorem WF_made {n : Nat} {σ : St} {d : Nat} {D : DoorD} {q : Nat × Nat × Nat × Nat} (hw : WF n σ) (hD : σD σ d = some D) (hM : dM D = some q) : q.1 < 3 ∧ ∃ g, σL σ q.1 = some g := by
  obtain ⟨hd, wd⟩ := hw.2.1 d D hD
  have hcell := wd.2.2.2.2.1 0 0 (by have := wd.1; omega) (by have := wd.2.2.1; omega)
  have hg : cnt D (offs (dC D 0 0)) ≠ 0 := cnt_pos.mpr ⟨0, 0, by have := wd.1; omega, by have := wd.2.2.1; omega, rfl⟩
  have h6 := hw.2.2.2.2.2.1 d hd
  rw [hD] at h6
  simp only [Option.bind_some, hM] at h6
  have hmem : (q.1, q.2.1 + offs (dC D 0 0), q.2.2.2, q.2.2.1, dPw D, cnt D (offs (dC D 0 0)) * dPh D, cnt D (offs (dC D 0 0)), (d : Int)) ∈ mkS d D q.1 q.2.1 q.2.2.1 q.2.2.2 := List.mem_filterMap.mpr ⟨offs (dC D 0 0), List.mem_range.mpr (by omega), by rw [if_neg hg]⟩
  have hmem2 : (q.1, q.2.1 + offs (dC D 0 0), q.2.2.2, q.2.2.1, dPw D, cnt D (offs (dC D 0 0)) * dPh D, cnt D (offs (dC D 0 0)), (d : Int)) ∈ (σS σ).filter (fun s => tD s == (d : Int)) := by rw [h6]; exact hmem
  have h := hw.2.2.1 _ (List.mem_filter.mp hmem2).1
  obtain ⟨h1, ⟨g, h2, -⟩, -⟩ := h
  exact ⟨h1, g, h2⟩
/-- doors below d are unmade already -/
def unD (l d : Nat) (Dr : Nat → Option DoorD) : Nat → Option DoorD := fun k => if k < d then (Dr k).map (unm l) else Dr k
theorem unD_lt {l d k : Nat} {Dr : Nat → Option DoorD} (h : k < d) : unD l d Dr k = (Dr k).map (unm l) := if_pos h
theorem unD_ge {l d k : Nat} {Dr : Nat → Option DoorD} (h : ¬ k < d) : unD l d Dr k = Dr k := if_neg h
theorem unD_s {l d k : Nat} {Dr : Nat → Option DoorD} (h : k ≠ d) : unD l (d + 1) Dr k = unD l d Dr k := by
  by_cases h1 : k < d
  · rw [unD_lt h1, unD_lt (by omega)]
  · rw [unD_ge h1, unD_ge (by omega)]
theorem m1_ne {q : Nat} (h : q < 3) : ¬ nI q = (-1 : Int32) := by
  intro e
  have := congrArg Int32.toInt e
  rw [nI_toInt (by omega)] at this
  have e1 : (-1 : Int32).toInt = -1 := rfl
  omega
theorem CD_upd {μ r : Mem} {d : Nat} {A B : Nat → Option DoorD} (H : CD μ A) (hAB : ∀ k, k ≠ d → B k = A k) (hr : ∀ b, b < 56 + 4 * d ∨ 60 + 4 * d ≤ b → r.1 b = μ.1 b) (hd : match B d with
  | none => r.1 (56 + 4 * d) 2 = 0 ∧ r.1 (56 + 4 * d) 8 = -1
  | some D => Cd r (56 + 4 * d) D) : CD r B := by
  intro k hk
  by_cases hkd : k = d
  · subst hkd; exact hd
  · rw [hAB k hkd]
    have H1 := H k hk
    cases hA : A k with
    | none => rw [hA] at H1; show r.1 (56 + 4 * k) 2 = 0 ∧ r.1 (56 + 4 * k) 8 = -1; rw [hr _ (by omega)]; exact H1
    | some D => rw [hA] at H1; exact Cd_of (fun b h1 h2 => hr b (by omega)) H1
theorem forC {l : Nat} {Dr : Nat → Option DoorD} {K : Mem → Option Mem} (hl : l < 3) (hb : ∀ d D q, Dr d = some D → dM D = some q → q.1 < 3) : ∀ (m n d : Nat) (μ : Mem), d + m = 8 → m < n → CD μ (unD l d Dr) → ∃ r, f_X8_forgetMadeOf_L2 (nI l) K n (nI d) μ = K r ∧ CD r (unD l 8 Dr) ∧ (∀ b, b < 56 ∨ 88 ≤ b → r.1 b = μ.1 b) ∧ r.2 = μ.2 := by
  intro m
  induction m with
  | zero =>
    intro n d μ hd hn H
    obtain ⟨n', rfl⟩ : ∃ n', n = n' + 1 := ⟨n - 1, by omega⟩
    have : d = 8 := by omega
    subst this
    exact ⟨μ, by rw [f_X8_forgetMadeOf_L2, if_pos (by decide)], H, fun _ _ => rfl, rfl⟩
  | succ m ih =>
    intro n d μ hd hn H
    obtain ⟨n', rfl⟩ : ∃ n', n = n' + 1 := ⟨n - 1, by omega⟩
    have hd8 : d < 8 := by omega
    have H1 := H d hd8
    rw [unD_ge (Nat.lt_irrefl d)] at H1
    rw [f_X8_forgetMadeOf_L2, if_neg (show ¬ (8 : Int32) ≤ nI d from nI_ge hd8 (by decide)), rR_nI hd8 (by decide), bi_some]
    have hm1 : ¬ (-1 : Int32) = nI l := fun q => m1_ne hl q.symm
    have same : unD l (d + 1) Dr d = unD l d Dr d → ∃ r, f_X8_forgetMadeOf_L2 (nI l) K n' (nI d + 1) μ = K r ∧ CD r (unD l 8 Dr) ∧ (∀ b, b < 56 ∨ 88 ≤ b → r.1 b = μ.1 b) ∧ r.2 = μ.2 := by
      intro e
      rw [nI_s]
      refine ih n' (d + 1) μ (by omega) (by omega) (fun k hk => ?_)
      by_cases hkd : k = d
      · subst hkd; rw [e]; exact H k hk
      · rw [unD_s hkd]; exact H k hk
    cases hD : Dr d with
    | none =>
      rw [hD] at H1
      rw [H1.2, if_neg hm1]
      exact same (by rw [unD_lt (by omega), unD_ge (Nat.lt_irrefl d), hD]; rfl)
    | some D =>
      rw [hD] at H1
      obtain ⟨p1, p2, p3, p4, p5, p6, p7, p8, p9, p10, p11⟩ := H1
      cases hM : dM D with
      | none =>
        rw [hM] at p11
        rw [p11.1, if_neg hm1]
        refine same ?_
        rw [unD_lt (by omega), unD_ge (Nat.lt_irrefl d), hD]
        show some (unm l D) = some D
        unfold unm; rw [hM]
        obtain ⟨a1, a2, a3, a4, a5, a6, a7⟩ := D
        cases hM; rfl
      | some q =>
        rw [hM] at p11
        have hq3 := hb d D q hD hM
        rw [p11.1]
        by_cases hql : q.1 = l
        · rw [if_pos (by rw [hql]), bi_some]
          unfold f_X0_notMade
          rw [bi_some, nI_s]
          have e : ∀ b, b ≠ 56 + 4 * d → (sI (sI (sI (sI μ (56 + 4 * d) 8 (-1)) (56 + 4 * d) 9 (-1)) (56 + 4 * d) 10 (-1)) (56 + 4 * d) 11 (-1)).1 b = μ.1 b := fun b hb => by rw [sI_pl hb, sI_pl hb, sI_pl hb, sI_pl hb]
          have es : ∀ j, j < 8 → (sI (sI (sI (sI μ (56 + 4 * d) 8 (-1)) (56 + 4 * d) 9 (-1)) (56 + 4 * d) 10 (-1)) (56 + 4 * d) 11 (-1)).1 (56 + 4 * d) j = μ.1 (56 + 4 * d) j := fun j hj => by rw [sI_sl (by omega), sI_sl (by omega), sI_sl (by omega), sI_sl (by omega)]
          obtain ⟨r, e1, e2, e3, e4⟩ := ih n' (d + 1) _ (by omega) (by omega) (CD_upd (d := d) (B := unD l (d + 1) Dr) H (fun k hk => unD_s hk) (fun b hb => e b (by omega)) (by
            rw [unD_lt (by omega), hD]
            show Cd _ _ (unm l D)
            unfold unm
            rw [hM]
            simp only [hql, if_true]
            refine ⟨by rw [es 2 (by omega)]; exact p1, by rw [e _ (by omega)]; exact p2, by rw [e _ (by omega)]; exact p3, fun c r hc hr => by rw [e _ (by omega)]; exact p4 c r hc hr, by rw [es 3 (by omega)]; exact p5, by rw [es 4 (by omega)]; exact p6, by rw [es 5 (by omega)]; exact p7, fun o ho => by rw [e _ (by omega)]; exact p8 o ho, ?_, ?_, ?_⟩
            · obtain ⟨o, o1, o2, o3⟩ := p9; exact ⟨o, o1, o2, by rw [es 6 (by omega)]; exact o3⟩
            · obtain ⟨o, o1, o2, o3⟩ := p10; exact ⟨o, o1, o2, by rw [es 7 (by omega)]; exact o3⟩
            · exact ⟨by simp [sI_at], by simp [sI_at], by simp [sI_at], by simp [sI_at]⟩))
          exact ⟨r, e1, e2, fun b hb => by rw [e3 b hb, e b (by omega)], e4⟩
        · rw [if_neg (fun z => hql (nI_inj (by omega) (by omega) z))]
          refine same ?_
          rw [unD_lt (by omega), unD_ge (Nat.lt_irrefl d), hD]
          show some (unm l D) = some D
          unfold unm; rw [hM]
          obtain ⟨a1, a2, a3, a4, a5, a6, a7⟩ := D
          cases hM
          simp only [hql, if_false]
