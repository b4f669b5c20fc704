/-! what a memory holds stays, where its rows stay -/
theorem Cf_of {μ μ' : Mem} {a : Nat} {f : FlawD} (h : μ'.1 a = μ.1 a) (H : Cf μ a f) : Cf μ' a f := by unfold Cf at *; rw [h]; exact H
theorem Cg_of {μ μ' : Mem} {a : Nat} {g : LogD} (hl : (gF g).length ≤ 10) (h : ∀ b, a ≤ b → b < a + 15 → μ'.1 b = μ.1 b) (h2 : μ'.2 (a + 3) = μ.2 (a + 3)) (H : Cg μ a g) : Cg μ' a g := by
  obtain ⟨h0, h1, h3, h4, h5, h6, h7, h8, h9, h10⟩ := H
  have ha := h a (by omega) (by omega)
  refine ⟨by rw [ha]; exact h0, by rw [ha]; exact h1, by rw [ha]; exact h3, by rw [ha]; exact h4, by rw [ha]; exact h5, by rw [ha]; exact h6, by rw [ha]; exact h7, by rw [ha]; exact h8, fun k f hk => ?_, fun i y x hi hy hx => by rw [h2]; exact h10 i y x hi hy hx⟩
  have hk2 : k < (gF g).length := (List.getElem?_eq_some_iff.mp hk).1
  exact Cf_of (h _ (by omega) (by omega)) (h9 k f hk)
theorem CL_of {μ μ' : Mem} {L : Nat → Option LogD} (hw : ∀ l g, L l = some g → l < 3 ∧ WFg g) (h : ∀ b, 11 ≤ b → b < 56 → μ'.1 b = μ.1 b) (h2 : ∀ b, 11 ≤ b → b < 56 → μ'.2 b = μ.2 b) (H : CL μ L) : CL μ' L := by
  intro l hl
  have H1 := H l hl
  cases hL : L l with
  | none =>
    rw [hL] at H1
    show μ'.1 (11 + 15 * l) 0 = 0
    rw [h _ (by omega) (by omega)]; exact H1
  | some g =>
    rw [hL] at H1
    have hg := (hw l g hL).2
    exact Cg_of hg.2.2.2.2.2.2.2.2.2.2.2.1 (fun b h3 h4 => h b (by omega) (by omega)) (h2 _ (by omega) (by omega)) H1
theorem Cd_of {μ μ' : Mem} {a : Nat} {D : DoorD} (h : ∀ b, a ≤ b → b < a + 4 → μ'.1 b = μ.1 b) (H : Cd μ a D) : Cd μ' a D := by
  unfold Cd at *
  rw [h a (by omega) (by omega), h (a + 1) (by omega) (by omega), h (a + 1 + 1) (by omega) (by omega), h (a + 3) (by omega) (by omega)]
  exact H
theorem CD_of {μ μ' : Mem} {Dr : Nat → Option DoorD} (h : ∀ b, 56 ≤ b → b < 88 → μ'.1 b = μ.1 b) (H : CD μ Dr) : CD μ' Dr := by
  intro d hd
  have H1 := H d hd
  cases hD : Dr d with
  | none =>
    rw [hD] at H1
    show μ'.1 (56 + 4 * d) 2 = 0 ∧ μ'.1 (56 + 4 * d) 8 = -1
    rw [h _ (by omega) (by omega)]; exact H1
  | some D =>
    rw [hD] at H1
    exact Cd_of (fun b h3 h4 => h b (by omega) (by omega)) H1
theorem CS_of {μ μ' : Mem} {L : Nat → Option LogD} {S : List Strip} (h : ∀ b, 11 ≤ b → b < 56 → μ'.1 b = μ.1 b) (h2 : ∀ b, 11 ≤ b → b < 56 → μ'.2 b = μ.2 b) (H : CS μ L S) : CS μ' L S := by
  intro l g hl hL
  obtain ⟨h3, h4⟩ := H l g hl hL
  refine ⟨fun i hi => by rw [h _ (by omega) (by omega)]; exact h3 i hi, fun i y x hi hy hx => by rw [h2 _ (by omega) (by omega)]; exact h4 i y x hi hy hx⟩
theorem CT2_of {μ μ' : Mem} {T : List Nat} (h : μ'.1 1 1 = μ.1 1 1) (h2 : μ'.1 2 = μ.1 2) (H : CT2 μ T) : CT2 μ' T := by unfold CT2 at *; rw [h, h2]; exact H
theorem CF_of {μ μ' : Mem} {F : Nat × Int} (h : μ'.1 3 2 = μ.1 3 2) (h2 : μ'.1 3 3 = μ.1 3 3) (H : CF μ F) : CF μ' F := by unfold CF at *; rw [h, h2]; exact H
theorem CP_of {μ μ' : Mem} {P : Nat → Int} (h : μ'.1 89 = μ.1 89) (H : CP μ P) : CP μ' P := by unfold CP at *; rw [h]; exact H
theorem Mf_of {μ μ' : Mem} {q : Nat} {f : FlawD} (h : ∀ b, 1 ≤ b → b < 16 → μ'.1 b = μ.1 b) (H : Mf μ q f) : Mf μ' q f := by
  unfold Mf at *; rw [h 8 (by omega) (by omega), h 9 (by omega) (by omega), h 10 (by omega) (by omega), h 11 (by omega) (by omega), h 12 (by omega) (by omega), h 13 (by omega) (by omega), h 14 (by omega) (by omega), h 15 (by omega) (by omega)]; exact H
theorem Mg_of {μ μ' : Mem} {l : Nat} {g : LogD} (h : ∀ b, 1 ≤ b → b < 16 → μ'.1 b = μ.1 b) (H : Mg μ l g) : Mg μ' l g := by
  obtain ⟨h1, h2, h3, h4, h5, h6, h7, h8⟩ := H
  refine ⟨by rw [h 1 (by omega) (by omega)]; exact h1, by rw [h 2 (by omega) (by omega)]; exact h2, by rw [h 3 (by omega) (by omega)]; exact h3, by rw [h 4 (by omega) (by omega)]; exact h4, by rw [h 5 (by omega) (by omega)]; exact h5, by rw [h 6 (by omega) (by omega)]; exact h6, by rw [h 7 (by omega) (by omega)]; exact h7, fun k f hk => Mf_of h (h8 k f hk)⟩
theorem ML_of {μ μ' : Mem} {L : Nat → Option LogD} (h : ∀ b, 1 ≤ b → b < 16 → μ'.1 b = μ.1 b) (H : ML μ L) : ML μ' L := by
  intro l hl
  have H1 := H l hl
  cases hL : L l with
  | none => rw [hL] at H1; show μ'.1 1 l = 0; rw [h 1 (by omega) (by omega)]; exact H1
  | some g => rw [hL] at H1; exact Mg_of h H1
theorem Md_of {μ μ' : Mem} {d : Nat} {D : DoorD} (h : ∀ b, 38 ≤ b → b < 48 → μ'.1 b = μ.1 b) (H : Md μ d D) : Md μ' d D := by
  unfold Md at *
  rw [h 38 (by omega) (by omega), h 39 (by omega) (by omega), h 40 (by omega) (by omega), h 41 (by omega) (by omega), h 42 (by omega) (by omega), h 43 (by omega) (by omega), h 44 (by omega) (by omega), h 45 (by omega) (by omega), h 46 (by omega) (by omega), h 47 (by omega) (by omega)]
  exact H
theorem MD_of {μ μ' : Mem} {Dr : Nat → Option DoorD} (h : ∀ b, 38 ≤ b → b < 48 → μ'.1 b = μ.1 b) (H : MD μ Dr) : MD μ' Dr := by
  intro d hd
  have H1 := H d hd
  cases hD : Dr d with
  | none => rw [hD] at H1; show μ'.1 38 d = 0 ∧ μ'.1 44 d = -1; rw [h 38 (by omega) (by omega), h 44 (by omega) (by omega)]; exact H1
  | some D => rw [hD] at H1; exact Md_of h H1
theorem Ms_of {μ μ' : Mem} {k : Nat} {s : Strip} (h : ∀ b, 16 ≤ b → b < 24 → μ'.1 b = μ.1 b) (H : Ms μ k s) : Ms μ' k s := by
  unfold Ms at *; rw [h 16 (by omega) (by omega), h 17 (by omega) (by omega), h 18 (by omega) (by omega), h 19 (by omega) (by omega), h 20 (by omega) (by omega), h 21 (by omega) (by omega), h 22 (by omega) (by omega), h 23 (by omega) (by omega)]; exact H
theorem MS_of {μ μ' : Mem} {S : List Strip} (h0 : μ'.1 0 15 = μ.1 0 15) (h : ∀ b, 16 ≤ b → b < 24 → μ'.1 b = μ.1 b) (H : MS μ S) : MS μ' S := ⟨by rw [h0]; exact H.1, fun k s hk => Ms_of h (H.2 k s hk)⟩
theorem MT_of {μ μ' : Mem} {T : List Nat} (h : μ'.1 0 25 = μ.1 0 25) (h2 : μ'.1 24 = μ.1 24) (H : MT μ T) : MT μ' T := by unfold MT at *; rw [h, h2]; exact H
theorem MF_of {μ μ' : Mem} {F : Nat × Int} (h : μ'.1 0 30 = μ.1 0 30) (h2 : μ'.1 0 31 = μ.1 0 31) (H : MF μ F) : MF μ' F := by unfold MF at *; rw [h, h2]; exact H
theorem MP_of {μ μ' : Mem} {P : Nat → Int} (h : μ'.1 0 66 = μ.1 0 66) (h2 : μ'.1 49 = μ.1 49) (H : MP μ P) : MP μ' P := by unfold MP at *; rw [h, h2]; exact H
theorem WF.mono {n : Nat} {σ : St} (h : WF n σ) : WF (n + 1) σ := by
  obtain ⟨h1, h2, h3, h4, h5, h6⟩ := h
  exact ⟨h1, h2, h3, h4, by omega, h6⟩
/-- a step of both, as the law asks for it -/
def Both {α : Type} (n : Nat) (c m : Option (α × Mem)) : Prop := ∃ r μc' μm', c = some (r, μc') ∧ m = some (r, μm') ∧ Sim (n + 1) μc' μm'
theorem Both.keep {α : Type} {n : Nat} {μc μm : Mem} {c m : Option (α × Mem)} (S : Sim n μc μm) (r : α) (hc : c = some (r, μc)) (hm : m = some (r, μm)) : Both n c m := by
  obtain ⟨σ, h1, h2, h3⟩ := S
  exact ⟨r, μc, μm, hc, hm, σ, h1.mono, h2, h3⟩
