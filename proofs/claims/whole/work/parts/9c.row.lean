/-! door: the machine reads a row -/
def Yst (r : Mem) (j w h : Nat) (f : Pic) : Prop := ∀ r1, frO r r1 26 → ∃ s, f_X10_ends r1 = some s ∧ rowM s j w h f ∧ s.1 30 j = 0 ∧ fen r1 s j
def RRm (T : List Nat) (j o : Nat) (μ : Mem) (v : Option Mem) (s : Rs) : Prop := match s with
  | .error e => erR μ v e
  | .ok q => ∃ n p' r, v = dr n 0 1 r ∧ MI r T p' j o ∧ p' ≤ T.length ∧ nx T p' = q.1 ∧ bq T q.1 ≠ 47 ∧ bq T q.1 ≠ 124 ∧ 410 ≤ n + p' ∧ fD μ r ∧ loF μ r j j o ∧ Yst r j q.2.1 q.2.2.1 q.2.2.2
theorem fen_fD {μ r : Mem} {j : Nat} (h : fen μ r j) : fD μ r := fD_pl (fun b h1 h2 => h.1 b (by omega) (by omega) (by omega) (by omega)) (fun i _ => by rw [h.1 0 (by decide) (by decide) (by decide) (by decide)])
theorem fen_lo {μ r : Mem} {j o : Nat} (h : fen μ r j) : loF μ r j j o := ⟨fun b hb i hi => by
  rcases hb with rfl | rfl | rfl
  · exact (h.2.1 i (by omega)).1
  · exact (h.2.1 i (by omega)).2.1
  · rw [h.1 33 (by decide) (by decide) (by decide) (by decide)], fun i hi => h.2.2 i (by omega), fun b hb i hi => by
  rcases hb with rfl | rfl | rfl
  · exact (h.2.1 i (by omega)).2.2
  · rw [h.1 31 (by decide) (by decide) (by decide) (by decide)]
  · rw [h.1 34 (by decide) (by decide) (by decide) (by decide)], fun i hi => by rw [h.1 32 (by decide) (by decide) (by decide) (by decide)], fun b hb i _ => by rw [h.1 b (by omega) (by omega) (by omega) (by omega)], by rw [h.1 0 (by decide) (by decide) (by decide) (by decide)]⟩
theorem RR_back {T : List Nat} {j o : Nat} {μ r : Mem} {v : Option Mem} {s : Rs} (f : fD μ r) (l : loF μ r j j o) (h : RRm T j o r v s) : RRm T j o μ v s := by
  cases s with
  | error e => exact er_back f h
  | ok q =>
    obtain ⟨n, p', r', h1, h2, h3, h4, h5, h6, h7, h8, h9, h10⟩ := h
    exact ⟨n, p', r', h1, h2, h3, h4, h5, h6, h7, fD.tr f h8, loF.tr l h9, h10⟩
theorem colM_O {μ r : Mem} {j w h i : Nat} {f : Pic} (hf : frO μ r i) (H : colM μ j w h f) : colM r j w h f := by
  unfold colM at *; rw [hf.1 30 (by decide), hf.1 31 (by decide), hf.1 32 (by decide)]; exact H
theorem rowM_O {μ r : Mem} {j w h i : Nat} {f : Pic} (hf : frO μ r i) (H : rowM μ j w h f) : rowM r j w h f := by
  unfold rowM at *; rw [hf.1 27 (by decide), hf.1 28 (by decide), hf.1 29 (by decide)]; exact H
theorem rowS {T : List Nat} {k j o : Nat} (hP : prOK T k) (hk : o + k = 6) (hj : j ≤ o) : ∀ (m p' w h n : Nat) (f : Pic) (μ : Mem), MI μ T p' j o → p' ≤ T.length → lvl μ o → 410 ≤ n + p' → bq T (nx T p') ≠ 47 → Yst μ j w h f → 1 ≤ w → w ≤ 8 → 1 ≤ h → h ≤ 8 → 9 ≤ w + m → RRm T j o μ (dr n 0 1 μ) (rowL T (col T (part T k)) m (nx T p') w h f) := by
  intro m
  induction m with
  | zero => intro p' w h n f μ _ _ _ _ _ _ _ h1 _ _ h2; omega
  | succ m ih =>
    intro p' w h n f μ hI hp hv hn hb47 hY hw1 hw8 hh1 hh8 h9
    have hl := hI.1.2.2.1
    have hbr := hI.1.2.2.2
    have hn1 := nx_ge (T := T) (p := p')
    have hn2 := nx_le hp
    unfold rowL
    rw [nx_nx]
    by_cases hb : bq T (nx T p') = 124
    · rw [if_pos hb]
      have hq := bq_lt hb (by decide)
      obtain ⟨n', rfl⟩ : ∃ n', n = n' + 1 := ⟨n - 1, by omega⟩
      obtain ⟨ht, h28, h26, h44, h45⟩ := id hI
      obtain ⟨r1, e1, k1, f1⟩ := nextM ht h26 hp
      obtain ⟨s, es, hrow, h30, hfen⟩ := hY r1 f1
      have z0 := hfen.1 0 (by decide) (by decide) (by decide) (by decide)
      have s28 : s.1 0 28 = 0 := by rw [z0, f1.2 28 (by decide)]; exact h28
      have s44 : s.1 0 44 = nI j := by rw [z0, f1.2 44 (by decide)]; exact h44
      have s26 : s.1 0 26 = nI (nx T p') := by rw [z0]; exact k1
      rw [dr_124 h28 e1 ((byv_eq (c := 124) hbr (by decide)).mpr hb) es s28, s44, s26, wI_nI (by omega) (by decide), bi_some, sI_pl (show (0 : Nat) ≠ 33 by decide), s26, nI_s]
      obtain ⟨t, hte⟩ : ∃ t, t = sI (sI s 33 j (nI (nx T p'))) 0 26 (nI (nx T p' + 1)) := ⟨_, rfl⟩
      rw [← hte]
      have t0 : ∀ i, i ≠ 26 → t.1 0 i = μ.1 0 i := fun i hi => by rw [hte, sI_sl hi, sI_pl (by decide), z0, f1.2 i hi]
      have tb : ∀ b, b ≠ 0 → b ≠ 33 → t.1 b = s.1 b := fun b h1 h2 => by rw [hte, sI_pl h1, sI_pl h2]
      have fst : fD s t := by rw [hte]; exact fD.tr (fD_a (by decide) (by decide)) (fD_s (by omega))
      have ft : fD μ t := fD.tr (fD_O f1 (by omega)) (fD.tr (fen_fD hfen) fst)
      have t33 : t.1 33 j = nI (nx T p') := by rw [hte, sI_pl (by decide), sI_same]
      have lst : loF s t j j o := by
        refine ⟨fun b hb i hi => ?_, fun i _ => by rw [tb 29 (by decide) (by decide)], fun b hb i hi => by rw [tb b (by omega) (by omega)], fun i _ => by rw [tb 32 (by decide) (by decide)], fun b hb i _ => by rw [tb b (by omega) (by omega)], by rw [hte, sI_sl (by decide), sI_pl (by decide)]⟩
        rcases hb with rfl | rfl | rfl
        · rw [tb 27 (by decide) (by decide)]
        · rw [tb 28 (by decide) (by decide)]
        · rw [hte, sI_pl (by decide), sI_sl (by omega)]
      have lt : loF μ t j j o := loF.tr (loF_O f1) (loF.tr (fen_lo hfen) lst)
      have hIt : MI t T (nx T p' + 1) j o := ⟨tpM_D ht ft, by rw [t0 28 (by decide)]; exact h28, by rw [hte, sI_same], by rw [t0 44 (by decide)]; exact h44, by rw [t0 45 (by decide)]; exact h45⟩
      have hrt : rowM t j w h f := by
        obtain ⟨a1, a2, a3⟩ := hrow
        exact ⟨by rw [tb 27 (by decide) (by decide)]; exact a1, by rw [tb 28 (by decide) (by decide)]; exact a2, fun c y hc hy => by rw [tb 29 (by decide) (by decide)]; exact a3 c y hc hy⟩
      have hR := colFm hP hk hj (n := n') hIt (by omega) (lvl_of hv lt) (by omega) (by rw [tb 30 (by decide) (by decide)]; exact h30)
      have hg := gd_col (gd_part (T := T) k) (nx T p' + 1) (by omega)
      cases hr : col T (part T k) (nx T p' + 1) with
      | error e =>
        rw [hr] at hR
        exact er_back ft hR
      | ok q =>
        rw [hr] at hR hg
        obtain ⟨n2, p2, r, e, hIr, hp2, hnx, h47, hn3, fr, lr, hcol⟩ := hR
        obtain ⟨g1, g2, g3, g4, g5, g6, g7⟩ := hg
        simp only
        have hrr : rowM r j w h f := by
          obtain ⟨a1, a2, a3⟩ := hrt
          exact ⟨by rw [lr.1 27 (by omega) j (by omega)]; exact a1, by rw [lr.1 28 (by omega) j (by omega)]; exact a2, fun c y hc hy => by rw [lr.2.1 _ (by omega)]; exact a3 c y hc hy⟩
        have r33 : r.1 33 j = nI (nx T p') := by rw [lr.1 33 (by omega) j (by omega)]; exact t33
        have ftr := fD.tr ft fr
        have ltr : loF μ r j j o := loF.tr lt (lr.mono (by omega) (Nat.le_refl _) (Nat.le_refl _))
        have en := fun (r3 : Mem) (hf3 : frO r r3 26) => en_2 (f := q.2.2.2) (f0 := f) (show j < 8 by omega) g4 g6 hw1 hw8 hh8 (show r3.1 0 28 = 0 by rw [hf3.2 28 (by decide)]; exact hIr.2.1) (show r3.1 0 44 = nI j by rw [hf3.2 44 (by decide)]; exact hIr.2.2.2.1) (colM_O hf3 hcol) (rowM_O hf3 hrr)
        -- the row is refused
        have ref : ∀ k2 : Nat, (k2 = 1 ∨ k2 = 2 ∨ k2 = 3) → (∀ r3, frO r r3 26 → f_X10_ends r3 = some (bad r3 (nI k2) (nI (nx T p')))) → erR μ (dr n' 1 1 t) (k2, nx T p') := by
          intro k2 hk2 hbad
          obtain ⟨n3, rfl⟩ : ∃ n3, n2 = n3 + 1 := ⟨n2 - 1, by omega⟩
          obtain ⟨r3, e3, k3, f3⟩ := nextM hIr.1 hIr.2.2.1 hp2
          have hb3 : ¬ byv T (nx T p2) = (47 : Int32) := fun z => h47 (by rw [← hnx]; exact (byv_eq (c := 47) hbr (by decide)).mp z)
          have hne : ¬ (bad r3 (nI k2) (nI (nx T p'))).1 0 28 = 0 := by
            rw [bad_at.1]
            rcases hk2 with rfl | rfl | rfl <;> decide
          rw [e, dr_eb hIr.2.1 e3 hb3 (hbad r3 f3) hne]
          exact er_bad (by omega) hk2 (fD.tr ftr (fD_O f3 (by omega)))
        by_cases hqh : q.2.2.1 = h
        · rw [if_pos hqh]
          by_cases h8 : w + q.2.1 ≤ 8
          · rw [if_pos h8]
            have hY2 : Yst r j (w + q.2.1) h (hst f w q.2.2.2) := fun r3 hf3 => by
              have h2 := en r3 hf3
              rw [if_pos hqh, if_pos h8] at h2
              rw [← hqh]; exact h2
            have := ih p2 (w + q.2.1) h n2 (hst f w q.2.2.2) r hIr hp2 (lvl_of (lvl_of hv lt) lr) hn3 (by rw [hnx]; exact h47) hY2 (by omega) h8 hh1 hh8 (by omega)
            rw [hnx] at this
            rw [e]
            exact RR_back ftr ltr this
          · rw [if_neg h8]
            refine ref 3 (by omega) (fun r3 hf3 => ?_)
            have h2 := en r3 hf3
            rw [if_pos hqh, if_neg h8, hf3.1 33 (by decide), r33] at h2
            exact h2
        · rw [if_neg hqh]
          refine ref 2 (by omega) (fun r3 hf3 => ?_)
          have h2 := en r3 hf3
          rw [if_neg hqh, hf3.1 33 (by decide), r33] at h2
          exact h2
    · rw [if_neg hb]
      exact ⟨n, p', μ, rfl, hI, hp, rfl, hb47, hb, hn, fD.rf, loF.rf, hY⟩
theorem rowFm {T : List Nat} {k j o : Nat} (hP : prOK T k) (hk : o + k = 6) (hj : j ≤ o) {p n : Nat} {μ : Mem} (hI : MI μ T p j o) (hp : p ≤ T.length) (hv : lvl μ o) (hn : 410 ≤ n + p) (h27 : μ.1 27 j = 0) (h30 : μ.1 30 j = 0) : RRm T j o μ (dr n 1 1 μ) (row T (part T k) p) := by
  have hl := hI.1.2.2.1
  have hR := colFm hP hk hj (n := n) hI hp hv hn h30
  have hg := gd_col (gd_part (T := T) k) p hp
  unfold row
  cases hr : col T (part T k) p with
  | error e => rw [hr] at hR; exact hR
  | ok q =>
    rw [hr] at hR hg
    obtain ⟨n2, p2, r, e, hIr, hp2, hnx, h47, hn3, fr, lr, hcol⟩ := hR
    obtain ⟨g1, g2, g3, g4, g5, g6, g7⟩ := hg
    have lr' : loF μ r j j o := lr.mono (by omega) (Nat.le_refl _) (Nat.le_refl _)
    have hY : Yst r j q.2.1 q.2.2.1 q.2.2.2 := fun r3 hf3 => en_1 (show j < 8 by omega) g4 g6 (by rw [hf3.2 28 (by decide)]; exact hIr.2.1) (by rw [hf3.2 44 (by decide)]; exact hIr.2.2.2.1) (colM_O hf3 hcol) (by rw [hf3.1 27 (by decide), lr.1 27 (by omega) j (by omega)]; exact h27)
    have := rowS hP hk hj 8 p2 q.2.1 q.2.2.1 n2 q.2.2.2 r hIr hp2 (lvl_of hv lr) hn3 (by rw [hnx]; exact h47) hY g3 g4 g5 g6 (by omega)
    rw [hnx] at this
    rw [e]
    exact RR_back fr lr' this
