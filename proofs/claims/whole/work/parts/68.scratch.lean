/-! scratch: what neither state holds may change -/
def scC (μ r : Mem) : Prop := (∀ b, b ≠ 3 → b ≠ 4 → b ≠ 5 → b ≠ 9 → b ≠ 10 → b ≠ 88 → b ≠ 90 → b ≠ 91 → b ≠ 92 → r.1 b = μ.1 b) ∧ r.1 3 2 = μ.1 3 2 ∧ r.1 3 3 = μ.1 3 3 ∧ r.2 = μ.2
theorem scC.rf {μ : Mem} : scC μ μ := ⟨fun _ _ _ _ _ _ _ _ _ _ => rfl, rfl, rfl, rfl⟩
theorem scC.tr {a b c : Mem} (h1 : scC a b) (h2 : scC b c) : scC a c := ⟨fun q p1 p2 p3 p4 p5 p6 p7 p8 p9 => (h2.1 q p1 p2 p3 p4 p5 p6 p7 p8 p9).trans (h1.1 q p1 p2 p3 p4 p5 p6 p7 p8 p9), h2.2.1.trans h1.2.1, h2.2.2.1.trans h1.2.2.1, h2.2.2.2.trans h1.2.2.2⟩
theorem RC_sc {σ : St} {n : Nat} {μ r : Mem} (hw : WF n σ) (hc : RC σ μ) (h : scC μ r) : RC σ r := by
  obtain ⟨s1, s2, s3, s4⟩ := h
  have e : ∀ b, 11 ≤ b → b < 88 → r.1 b = μ.1 b := fun b h1 h2 => s1 b (by omega) (by omega) (by omega) (by omega) (by omega) (by omega) (by omega) (by omega) (by omega)
  exact ⟨CL_of hw.1 (fun b h1 h2 => e b h1 (by omega)) (fun b _ _ => by rw [s4]) hc.1, CD_of (fun b h1 h2 => e b (by omega) h2) hc.2.1, CS_of (fun b h1 h2 => e b h1 (by omega)) (fun b _ _ => by rw [s4]) hc.2.2.1, CT2_of (by rw [s1 1 (by decide) (by decide) (by decide) (by decide) (by decide) (by decide) (by decide) (by decide) (by decide)]) (s1 2 (by decide) (by decide) (by decide) (by decide) (by decide) (by decide) (by decide) (by decide) (by decide)) hc.2.2.2.1, CF_of s2 s3 hc.2.2.2.2.1, CP_of (s1 89 (by decide) (by decide) (by decide) (by decide) (by decide) (by decide) (by decide) (by decide) (by decide)) hc.2.2.2.2.2⟩
def scM (μ r : Mem) : Prop := (∀ b, 1 ≤ b → (b < 25 ∨ (37 < b ∧ b < 48) ∨ b = 49) → r.1 b = μ.1 b) ∧ ∀ j, (j = 15 ∨ j = 25 ∨ j = 30 ∨ j = 31 ∨ j = 66) → r.1 0 j = μ.1 0 j
theorem scM.rf {μ : Mem} : scM μ μ := ⟨fun _ _ _ => rfl, fun _ _ => rfl⟩
theorem scM.tr {a b c : Mem} (h1 : scM a b) (h2 : scM b c) : scM a c := ⟨fun q p1 p2 => (h2.1 q p1 p2).trans (h1.1 q p1 p2), fun q p => (h2.2 q p).trans (h1.2 q p)⟩
theorem RM_sc {σ : St} {μ r : Mem} (hm : RM σ μ) (h : scM μ r) : RM σ r :=
  ⟨ML_of (fun b h1 _ => h.1 b h1 (by omega)) hm.1, MD_of (fun b h1 _ => h.1 b (by omega) (by omega)) hm.2.1, MS_of (h.2 15 (by omega)) (fun b h1 _ => h.1 b (by omega) (by omega)) hm.2.2.1, MT_of (h.2 25 (by omega)) (h.1 24 (by omega) (by omega)) hm.2.2.2.1, MF_of (h.2 30 (by omega)) (h.2 31 (by omega)) hm.2.2.2.2.1, MP_of (h.2 66 (by omega)) (h.1 49 (by omega) (by omega)) hm.2.2.2.2.2⟩
