/-! door: the machine reads a column -/
def cmf (m n : Nat) (r : Mem) : Option Mem := (f_X10_comes_L0 cmK m r).bind (fun μ' => dr n 0 1 μ')
def erR (μ : Mem) (v : Option Mem) (e : Nat × Nat) : Prop := ∃ r, v = some r ∧ fD μ r ∧ r.1 0 28 = nI e.1 ∧ r.1 0 29 = nI e.2
def PR (T : List Nat) (j o : Nat) (μ : Mem) (v : Option Mem) (s : Rs) : Prop := match s with
  | .error e => erR μ v e
  | .ok q => ∃ n m r, v = cmf m n r ∧ MI r T q.1 j o ∧ 410 ≤ n + q.1 ∧ 8000 + o ≤ m ∧ fD μ r ∧ loF μ r (j + 1) (j + 1) o ∧ ptM r q.2.1 q.2.2.1 q.2.2.2
def prOK (T : List Nat) (k : Nat) : Prop := ∀ (μ : Mem) (p j o n : Nat), o + k = 6 → j ≤ o → MI μ T p j o → p ≤ T.length → 410 ≤ n + p → PR T j o μ (dr n 1 1 μ) (part T k p)
def CR (T : List Nat) (j o : Nat) (μ : Mem) (v : Option Mem) (s : Rs) : Prop := match s with
  | .error e => erR μ v e
  | .ok q => ∃ n p' r, v = dr n 0 1 r ∧ MI r T p' j o ∧ p' ≤ T.length ∧ nx T p' = q.1 ∧ bq T q.1 ≠ 47 ∧ 410 ≤ n + p' ∧ fD μ r ∧ loF μ r (j + 1) j o ∧ colM r j q.2.1 q.2.2.1 q.2.2.2
def lvl (μ : Mem) (o : Nat) : Prop := o = 0 ∨ μ.1 35 (o - 1) = nI 40
theorem lvl_of {μ r : Mem} {J1 J2 o : Nat} (h : lvl μ o) (f : loF μ r J1 J2 o) : lvl r o := by
  rcases h with h | h
  · exact Or.inl h
  · by_cases h0 : o = 0
    · exact Or.inl h0
    · exact Or.inr (by rw [f.2.2.2.2.1 35 (by omega) (o - 1) (by omega)]; exact h)
theorem fcm_fD {μ r : Mem} {j : Nat} (h : fcm μ r j) : fD μ r := fD_pl (fun b h1 h2 => h.1 b (by omega) (by omega) (by omega)) (fun i _ => by rw [h.1 0 (by decide) (by decide) (by decide)])
theorem fcm_lo {μ r : Mem} {j o : Nat} (h : fcm μ r j) : loF μ r (j + 1) j o := ⟨fun b hb i _ => by rw [h.1 b (by omega) (by omega) (by omega)], fun i _ => by rw [h.1 29 (by decide) (by decide) (by decide)], fun b hb i hi => by
  rcases hb with rfl | rfl | rfl
  · exact (h.2.1 i (by omega)).1
  · exact (h.2.1 i (by omega)).2
  · rw [h.1 34 (by decide) (by decide) (by decide)], fun i hi => h.2.2 i (by omega), fun b hb i _ => by rw [h.1 b (by omega) (by omega) (by omega)], by rw [h.1 0 (by decide) (by decide) (by decide)]⟩
theorem MI_fcm {μ r : Mem} {T : List Nat} {p j o : Nat} (hI : MI μ T p j o) (h : fcm μ r j) : MI r T p j o := by
  have h0 := h.1 0 (by decide) (by decide) (by decide)
  exact ⟨tpM_D hI.1 (fcm_fD h), by rw [h0]; exact hI.2.1, by rw [h0]; exact hI.2.2.1, by rw [h0]; exact hI.2.2.2.1, by rw [h0]; exact hI.2.2.2.2⟩
theorem er_bad {μ s : Mem} {n k p : Nat} {a : Int32} (hn : 1 ≤ n) (hk : k = 1 ∨ k = 2 ∨ k = 3) (f : fD μ s) : erR μ (dr n a 1 (bad s (nI k) (nI p))) (k, p) := by
  obtain ⟨n', rfl⟩ : ∃ n', n = n' + 1 := ⟨n - 1, by omega⟩
  have hk0 : ¬ (bad s (nI k) (nI p)).1 0 28 = 0 := by
    rw [bad_at.1]
    rcases hk with rfl | rfl | rfl <;> decide
  rw [dr_bad hk0]
  exact ⟨_, rfl, fD.tr f fD_bad, bad_at.1, bad_at.2⟩
theorem er_back {μ r : Mem} {v : Option Mem} {e : Nat × Nat} (f : fD μ r) (h : erR r v e) : erR μ v e := by
  obtain ⟨s, h1, h2, h3⟩ := h
  exact ⟨s, h1, fD.tr f h2, h3⟩
theorem CR_back {T : List Nat} {j o : Nat} {μ r : Mem} {v : Option Mem} {s : Rs} (f : fD μ r) (l : loF μ r (j + 1) j o) (h : CR T j o r v s) : CR T j o μ v s := by
  cases s with
  | error e => exact er_back f h
  | ok q =>
    obtain ⟨n, p', r', h1, h2, h3, h4, h5, h6, h7, h8, h9⟩ := h
    exact ⟨n, p', r', h1, h2, h3, h4, h5, h6, fD.tr f h7, loF.tr l h8, h9⟩
theorem colS {T : List Nat} {k j o : Nat} (hP : prOK T k) (hk : o + k = 6) (hj : j ≤ o) : ∀ (m p w h n : Nat) (f : Pic) (μ : Mem), MI μ T p j o → p ≤ T.length → lvl μ o → 410 ≤ n + p → colM μ j w h f → 1 ≤ w → w ≤ 8 → 1 ≤ h → h ≤ 8 → 9 ≤ h + m → CR T j o μ (dr n 0 1 μ) (colL T (part T k) m p w h f) := by
  intro m
  induction m with
  | zero => intro p w h n f μ _ _ _ _ _ _ _ _ h1 h2; omega
  | succ m ih =>
    intro p w h n f μ hI hp hv hn hc hw1 hw8 hh1 hh8 h9
    have hl := hI.1.2.2.1
    have hbr := hI.1.2.2.2
    have hn1 := nx_ge (T := T) (p := p)
    have hn2 := nx_le hp
    unfold colL
    by_cases hb : bq T (nx T p) = 47
    · rw [if_pos hb]
      have hq := bq_lt hb (by decide)
      obtain ⟨n', rfl⟩ : ∃ n', n = n' + 1 := ⟨n - 1, by omega⟩
      obtain ⟨ht, h28, h26, h44, h45⟩ := id hI
      obtain ⟨r1, e1, k1, f1⟩ := nextM ht h26 hp
      have k44 : r1.1 0 44 = nI j := by rw [f1.2 44 (by decide)]; exact h44
      rw [dr_47 h28 e1 ((byv_eq (c := 47) hbr (by decide)).mpr hb), k44, k1, wI_nI (by omega) (by decide), bi_some, sI_pl (show (0 : Nat) ≠ 34 by decide), k1, nI_s]
      obtain ⟨s, hs⟩ : ∃ s, s = sI (sI r1 34 j (nI (nx T p))) 0 26 (nI (nx T p + 1)) := ⟨_, rfl⟩
      rw [← hs]
      have s0 : ∀ i, i ≠ 26 → s.1 0 i = μ.1 0 i := fun i hi => by rw [hs, sI_sl hi, sI_pl (by decide), f1.2 i hi]
      have sb : ∀ b, b ≠ 0 → b ≠ 34 → s.1 b = μ.1 b := fun b h1 h2 => by rw [hs, sI_pl h1, sI_pl h2, f1.1 b h1]
      have fs : fD μ s := by rw [hs]; exact fD.tr (fD_O f1 (by omega)) (fD.tr (fD_a (by decide) (by decide)) (fD_s (by omega)))
      have s34 : s.1 34 j = nI (nx T p) := by rw [hs, sI_pl (by decide), sI_same]
      have ls : loF μ s (j + 1) j o := by
        refine ⟨fun b hb i _ => by rw [sb b (by omega) (by omega)], fun i _ => by rw [sb 29 (by decide) (by decide)], fun b hb i hi => ?_, fun i _ => by rw [sb 32 (by decide) (by decide)], fun b hb i _ => by rw [sb b (by omega) (by omega)], s0 29 (by decide)⟩
        rcases hb with rfl | rfl | rfl
        · rw [sb 30 (by decide) (by decide)]
        · rw [sb 31 (by decide) (by decide)]
        · rw [hs, sI_pl (by decide), sI_sl (by omega), f1.1 34 (by decide)]
      have hIs : MI s T (nx T p + 1) j o := ⟨tpM_D ht fs, by rw [s0 28 (by decide)]; exact h28, by rw [hs, sI_same], by rw [s0 44 (by decide)]; exact h44, by rw [s0 45 (by decide)]; exact h45⟩
      have hR := hP s (nx T p + 1) j o n' hk hj hIs (by omega) (by omega)
      have hg := gd_part (T := T) k (nx T p + 1) (by omega)
      cases hr : part T k (nx T p + 1) with
      | error e =>
        rw [hr] at hR
        exact er_back fs hR
      | ok q =>
        rw [hr] at hR hg
        obtain ⟨n2, m2, r, e, hIr, hn3, hm2, fr, lr, hpt⟩ := hR
        obtain ⟨g1, g2, g3, g4, g5, g6, g7⟩ := hg
        simp only
        have hcr : colM r j w h f := by
          obtain ⟨c1, c2, c3⟩ := hc
          refine ⟨by rw [lr.2.2.1 30 (by omega) j (by omega), sb 30 (by decide) (by decide)]; exact c1, by rw [lr.2.2.1 31 (by omega) j (by omega), sb 31 (by decide) (by decide)]; exact c2, fun c t hc2 ht2 => by rw [lr.2.2.2.1 _ (by omega), sb 32 (by decide) (by decide)]; exact c3 c t hc2 ht2⟩
        have r34 : r.1 34 j = nI (nx T p) := by rw [lr.2.2.1 34 (by omega) j (by omega)]; exact s34
        have hvr : lvl r o := lvl_of (lvl_of hv ls) (lr.mono (Nat.le_refl _) (show j ≤ j + 1 by omega) (Nat.le_refl _))
        obtain ⟨m3, rfl⟩ : ∃ m3, m2 = m3 + 1 := ⟨m2 - 1, by omega⟩
        have e2 : dr n' 1 1 s = (cmK r).bind (fun μ' => dr n2 0 1 μ') := by
          rw [e]; unfold cmf
          rw [cl_lvl (by omega) hIr.2.1 hIr.2.2.2.2 hvr]
        have h2 := cmK_2 (f := q.2.2.2) (f0 := f) (show j < 8 by omega) g4 g6 hw1 hw8 hh1 hh8 hIr.2.1 hIr.2.2.2.1 hpt hcr
        have fsr := fD.tr fs fr
        have lsr : loF μ r (j + 1) j o := loF.tr ls (lr.mono (Nat.le_refl _) (by omega) (Nat.le_refl _))
        by_cases hqw : q.2.1 = w
        · rw [if_pos hqw] at h2 ⊢
          by_cases h8 : h + q.2.2.1 ≤ 8
          · rw [if_pos h8] at h2 ⊢
            obtain ⟨r', er', hc', hf'⟩ := h2
            rw [e2, er', bi_some]
            rw [hqw] at hc'
            have := ih q.1 w (h + q.2.2.1) n2 (vst f h q.2.2.2) r' (MI_fcm hIr hf') g2 (lvl_of hvr (fcm_lo hf')) hn3 hc' hw1 hw8 (by omega) h8 (by omega)
            exact CR_back (fD.tr fsr (fcm_fD hf')) (loF.tr lsr (fcm_lo hf')) this
          · rw [if_neg h8] at h2 ⊢
            rw [e2, h2, bi_some, r34]
            exact er_bad (k := 3) (by omega) (by omega) fsr
        · rw [if_neg hqw] at h2 ⊢
          rw [e2, h2, bi_some, r34]
          exact er_bad (k := 2) (by omega) (by omega) fsr
    · rw [if_neg hb]
      exact ⟨n, p, μ, rfl, hI, hp, rfl, hb, hn, fD.rf, loF.rf, hc⟩
theorem colFm {T : List Nat} {k j o : Nat} (hP : prOK T k) (hk : o + k = 6) (hj : j ≤ o) {p n : Nat} {μ : Mem} (hI : MI μ T p j o) (hp : p ≤ T.length) (hv : lvl μ o) (hn : 410 ≤ n + p) (h30 : μ.1 30 j = 0) : CR T j o μ (dr n 1 1 μ) (col T (part T k) p) := by
  have hl := hI.1.2.2.1
  have hR := hP μ p j o n hk hj hI hp hn
  have hg := gd_part (T := T) k p hp
  unfold col
  cases hr : part T k p with
  | error e => rw [hr] at hR; exact hR
  | ok q =>
    rw [hr] at hR hg
    obtain ⟨n2, m2, r, e, hIr, hn3, hm2, fr, lr, hpt⟩ := hR
    obtain ⟨g1, g2, g3, g4, g5, g6, g7⟩ := hg
    obtain ⟨m3, rfl⟩ : ∃ m3, m2 = m3 + 1 := ⟨m2 - 1, by omega⟩
    have lr' : loF μ r (j + 1) j o := lr.mono (Nat.le_refl _) (by omega) (Nat.le_refl _)
    have hvr : lvl r o := lvl_of hv lr'
    obtain ⟨r', er', hc', hf'⟩ := cmK_1 (show j < 8 by omega) g4 g6 hIr.2.1 hIr.2.2.2.1 hpt (by rw [lr.2.2.1 30 (by omega) j (by omega)]; exact h30)
    have e2 : dr n 1 1 μ = dr n2 0 1 r' := by
      rw [e]; unfold cmf
      rw [cl_lvl (by omega) hIr.2.1 hIr.2.2.2.2 hvr, er', bi_some]
    rw [e2]
    have := colS hP hk hj 8 q.1 q.2.1 q.2.2.1 n2 q.2.2.2 r' (MI_fcm hIr hf') g2 (lvl_of hvr (fcm_lo hf')) hn3 hc' g3 g4 g5 g6 (by omega)
    exact CR_back (fD.tr fr (fcm_fD hf')) (loF.tr lr' (fcm_lo hf')) this
