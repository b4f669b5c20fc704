/-! door: the class reads rows, columns, parts -/
def bxR (μ r : Mem) (L Tp w h : Nat) (f : Pic) : Prop := (∀ x y, x < 8 → y < 8 → ¬ (L ≤ x ∧ x < L + w ∧ Tp ≤ y ∧ y < Tp + h) → cel r x y = cel μ x y) ∧ (L + w ≤ 8 → Tp + h ≤ 8 → ∀ c q, c < w → q < h → cel r (L + c) (Tp + q) = nI (f c q))
def frR (μ r : Mem) : Prop := (∀ b, b ≠ 3 → b ≠ 5 → r.1 b = μ.1 b) ∧ r.2 = μ.2
theorem frR.rf {μ : Mem} : frR μ μ := ⟨fun _ _ _ => rfl, rfl⟩
theorem frR.tr {a b c : Mem} (h1 : frR a b) (h2 : frR b c) : frR a c := ⟨fun q p1 p2 => (h2.1 q p1 p2).trans (h1.1 q p1 p2), h2.2.trans h1.2⟩
theorem frR_N {μ r : Mem} (h : frN μ r) : frR μ r := ⟨fun b h3 _ => h.1 b h3, h.2.2⟩
theorem frR_5 {μ r : Mem} (h : fr5 μ r) : frR μ r := ⟨fun b _ h5 => h.1 b h5, h.2⟩
theorem frR_3 {μ : Mem} {j : Nat} {v : Int32} : frR μ (sI μ 3 j v) := ⟨fun b h3 _ => sI_pl h3, rfl⟩
theorem tp_R {μ r : Mem} {T : List Nat} (h : tpC μ T) (f : frR μ r) : tpC r T := ⟨CT2_of (by rw [f.1 1 (by decide) (by decide)]) (f.1 2 (by decide) (by decide)) h.1, h.2⟩
theorem cel_N {μ r : Mem} {x y : Nat} (h : frN μ r) : cel r x y = cel μ x y := by unfold cel; rw [h.1 5 (by decide)]
theorem cel_3 {μ : Mem} {x y j : Nat} {v : Int32} : cel (sI μ 3 j v) x y = cel μ x y := by unfold cel; rw [sI_pl (by decide)]
def sm2 (μ r : Mem) : Prop := r.1 3 2 = μ.1 3 2 ∧ r.1 3 3 = μ.1 3 3
/-- a reading's answer against what the text says -/
def CRs (μ : Mem) (L Tp : Nat) (v : Option (Int32 × Mem)) (s : Rs) : Prop := ∃ r, frR μ r ∧ match s with
  | .error e => v = some (0, r) ∧ r.1 3 2 = nI e.1 ∧ r.1 3 3 = nI e.2
  | .ok q => v = some (1, r) ∧ sm2 μ r ∧ r.1 3 4 = nI q.1 ∧ r.1 3 5 = nI q.2.1 ∧ r.1 3 6 = nI q.2.2.1 ∧ bxR μ r L Tp q.2.1 q.2.2.1 q.2.2.2
theorem CRs_err {μ r : Mem} {L Tp k p : Nat} (f : frR μ r) : CRs μ L Tp (bd (f_X6_refuse (nI k) (nI p) r) (fun r7 μ6 => bz r7 μ6)) (.error (k, p)) := by
  refine ⟨sI (sI r 3 2 (nI k)) 3 3 (nI p), frR.tr f (frR.tr frR_3 frR_3), ?_, ?_, sI_same _ _ _ _⟩
  · unfold f_X6_refuse; rw [bd_some, bz_0]
  · rw [sI_sl (by decide), sI_same]
theorem CRs_bz {μ : Mem} {L Tp : Nat} {v : Option (Int32 × Mem)} {s : Rs} (h : CRs μ L Tp v s) : CRs μ L Tp (bd v (fun r μ => bz r μ)) s := by
  obtain ⟨r, f, h⟩ := h
  refine ⟨r, f, ?_⟩
  cases s with
  | error e => exact ⟨by rw [h.1, bd_some, bz_0], h.2⟩
  | ok q => exact ⟨by rw [h.1, bd_some, bz_1], h.2⟩
theorem CRs_back {μ r : Mem} {L Tp : Nat} {v : Option (Int32 × Mem)} {s : Rs} (f : frR μ r) (h2 : sm2 μ r) (hc : ∀ x y, x < 8 → y < 8 → cel r x y = cel μ x y) (h : CRs r L Tp v s) : CRs μ L Tp v s := by
  obtain ⟨q, g, h⟩ := h
  refine ⟨q, frR.tr f g, ?_⟩
  cases s with
  | error e => exact h
  | ok t =>
    obtain ⟨a1, a2, a3, a4, a5, a6⟩ := h
    exact ⟨a1, ⟨a2.1.trans h2.1, a2.2.trans h2.2⟩, a3, a4, a5, fun x y hx hy hn => (a6.1 x y hx hy hn).trans (hc x y hx hy), a6.2⟩
theorem le8 {a : Nat} (h : a ≤ 1000) : nI a ≤ (8 : Int32) ↔ a ≤ 8 := by
  rw [show (8 : Int32) = iz 8 by decide, iz_nat, iz_le (by omega) (by omega) (by omega) (by omega)]; omega
/-- a reading of columns or parts that may be called -/
def rdOK (T : List Nat) (rk : Int32 → Int32 → Mem → Option (Int32 × Mem)) (P : Nat → Rs) (B : Nat) : Prop := ∀ (μ : Mem) (p L Tp : Nat), tpC μ T → μ.1 3 4 = nI p → p ≤ T.length → L ≤ B → Tp ≤ B → CRs μ L Tp (rk (nI L) (nI Tp) μ) (P p)
theorem colC {T : List Nat} {rk : Nat → Int32 → Int32 → Int32 → Int32 → Mem → Option (Int32 × Mem)} {P : Nat → Rs} {B L Tp w : Nat} {v3 : Int32} (hB : B ≤ 300) (hP : rdOK T (fun a b μ => rk 2 a b v3 0 μ) P B) (hg : ∀ p, p ≤ T.length → gdR T p (P p)) (hL : L ≤ B) (hT : Tp + 8 ≤ B) (hw : 1 ≤ w) (hw8 : w ≤ 8) : ∀ (m n i p h : Nat) (f : Pic) (μ μ0 : Mem), i + m = 8 → m < n → tpC μ T → μ.1 3 4 = nI p → p ≤ T.length → frR μ0 μ → sm2 μ0 μ → bxR μ0 μ L Tp w h f → h ≤ 8 → CRs μ0 L Tp (f_X6_readColumn_L27 rk (nI L) (nI Tp) v3 (nI w) (fun w17 μ18 => (some ((1 : Int32), (sI (sI μ18 3 5 (nI w)) 3 6 w17)))) n (nI h) (nI i) μ) (colL T P m p w h f) := by
  intro m
  have fin : ∀ (p h : Nat) (f : Pic) (μ μ0 : Mem), μ.1 3 4 = nI p → frR μ0 μ → sm2 μ0 μ → bxR μ0 μ L Tp w h f → CRs μ0 L Tp (some ((1 : Int32), (sI (sI μ 3 5 (nI w)) 3 6 (nI h)))) (.ok (p, w, h, f)) := by
    intro p h f μ μ0 h4 hf h2 hb
    refine ⟨_, frR.tr hf (frR.tr frR_3 frR_3), rfl, ⟨?_, ?_⟩, ?_, ?_, sI_same _ _ _ _, ?_⟩
    · rw [sI_sl (by decide), sI_sl (by decide)]; exact h2.1
    · rw [sI_sl (by decide), sI_sl (by decide)]; exact h2.2
    · rw [sI_sl (by decide), sI_sl (by decide)]; exact h4
    · rw [sI_sl (by decide), sI_same]
    · exact ⟨fun x y h1 h3 h5 => by rw [cel_3, cel_3]; exact hb.1 x y h1 h3 h5, fun h1 h3 c q h5 h6 => by rw [cel_3, cel_3]; exact hb.2 h1 h3 c q h5 h6⟩
  induction m with
  | zero =>
    intro n i p h f μ μ0 hi hn ht h4 hp hf h2 hb hh8
    obtain ⟨n', rfl⟩ : ∃ n', n = n' + 1 := ⟨n - 1, by omega⟩
    have : i = 8 := by omega
    subst this
    rw [f_X6_readColumn_L27, if_pos (by decide)]
    exact fin p h f μ μ0 h4 hf h2 hb
  | succ m ih =>
    intro n i p h f μ μ0 hi hn ht h4 hp hf h2 hb hh8
    obtain ⟨n', rfl⟩ : ∃ n', n = n' + 1 := ⟨n - 1, by omega⟩
    have hi8 : ¬ (8 : Int32) ≤ nI i := nI_ge (b := 8) (by omega) (by omega)
    have hn2 := nx_le hp
    have hl := ht.2.1
    obtain ⟨r1, e1, k1, f1⟩ := nextC ht h4 hp
    have hf1 := frR.tr hf (frR_N f1)
    have h21 : sm2 μ0 r1 := ⟨by rw [f1.2.1 2 (by decide)]; exact h2.1, by rw [f1.2.1 3 (by decide)]; exact h2.2⟩
    have hb1 : bxR μ0 r1 L Tp w h f := ⟨fun x y a1 a2 a3 => by rw [cel_N f1]; exact hb.1 x y a1 a2 a3, fun a1 a2 c q a3 a4 => by rw [cel_N f1]; exact hb.2 a1 a2 c q a3 a4⟩
    rw [f_X6_readColumn_L27, if_neg hi8, e1, bd_some]
    unfold colL
    have c47 : byv T (nx T p) = (47 : Int32) ↔ bq T (nx T p) = 47 := byv_eq (c := 47) ht.2.2 (by decide)
    by_cases hs : bq T (nx T p) = 47
    · rw [if_pos (c47.mpr hs), if_pos hs, k1, nI_s, nI_add]
      have hq := bq_lt hs (by decide)
      have hP1 := hP (sI r1 3 4 (nI (nx T p + 1))) (nx T p + 1) L (Tp + h) (tp_R ht (frR.tr (frR_N f1) frR_3)) (sI_same _ _ _ _) (by omega) hL (by omega)
      have hg1 := hg (nx T p + 1) (by omega)
      have hfs : frR μ0 (sI r1 3 4 (nI (nx T p + 1))) := frR.tr hf1 frR_3
      obtain ⟨r, fr, hr⟩ := hP1
      simp only at hr
      cases hs2 : P (nx T p + 1) with
      | error e =>
        rw [hs2] at hr
        simp only at hr ⊢
        rw [hr.1, bd_some, if_pos rfl]
        exact ⟨r, frR.tr hfs fr, rfl, hr.2⟩
      | ok q =>
        rw [hs2] at hr hg1
        simp only at hr ⊢
        obtain ⟨a1, a2, a3, a4, a5, a6⟩ := hr
        obtain ⟨g1, g2, g3, g4, g5, g6, g7⟩ := hg1
        rw [a1, bd_some, if_neg (show ¬ (1 : Int32) = 0 by decide), a4, a5, nI_add]
        have cw : nI q.2.1 = nI w ↔ q.2.1 = w := ⟨fun z => nI_inj (by omega) (by omega) z, fun z => by rw [z]⟩
        by_cases hqw : q.2.1 = w
        · rw [if_pos (cw.mpr hqw), if_pos hqw]
          by_cases h8 : h + q.2.2.1 ≤ 8
          · rw [if_pos ((le8 (by omega)).mpr h8), if_pos h8, nI_s]
            have hsm : sm2 μ0 r := ⟨by rw [a2.1, sI_sl (by decide)]; exact h21.1, by rw [a2.2, sI_sl (by decide)]; exact h21.2⟩
            have hbx : bxR μ0 r L Tp w (h + q.2.2.1) (vst f h q.2.2.2) := by
              refine ⟨fun x y b1 b2 b3 => ?_, fun b1 b2 c t b3 b4 => ?_⟩
              · rw [a6.1 x y b1 b2 (by omega), cel_3, hb1.1 x y b1 b2 (by omega)]
              · unfold vst
                by_cases hth : t < h
                · rw [if_pos hth, a6.1 (L + c) (Tp + t) (by omega) (by omega) (by omega), cel_3, hb1.2 b1 (by omega) c t b3 hth]
                · rw [if_neg hth]
                  have := a6.2 (by omega) (by omega) c (t - h) (by omega) (by omega)
                  rw [show Tp + h + (t - h) = Tp + t by omega] at this
                  exact this
            exact ih n' (i + 1) q.1 (h + q.2.2.1) (vst f h q.2.2.2) r μ0 (by omega) (by omega) (tp_R ht (frR.tr (frR.tr (frR_N f1) frR_3) fr)) a3 g2 (frR.tr hfs fr) hsm hbx h8
          · rw [if_neg (fun z => h8 ((le8 (by omega)).mp z)), if_neg h8]
            exact CRs_err (k := 3) (frR.tr hfs fr)
        · rw [if_neg (fun z => hqw (cw.mp z)), if_neg hqw]
          exact CRs_err (k := 2) (frR.tr hfs fr)
    · rw [if_neg (fun z => hs (c47.mp z)), if_neg hs]
      exact fin (nx T p) h f r1 μ0 k1 hf1 h21 hb1
theorem colOK {T : List Nat} {rk : Nat → Int32 → Int32 → Int32 → Int32 → Mem → Option (Int32 × Mem)} {P : Nat → Rs} {B C : Nat} {v3 : Int32} (hB : B ≤ 300) (hC : C + 8 ≤ B) (hP : rdOK T (fun a b μ => rk 2 a b v3 0 μ) P B) (hg : ∀ p, p ≤ T.length → gdR T p (P p)) : ∀ (μ : Mem) (p L Tp : Nat), tpC μ T → μ.1 3 4 = nI p → p ≤ T.length → L ≤ B → Tp ≤ C → CRs μ L Tp (f_X6_readColumn rk (nI L) (nI Tp) v3 μ) (col T P p) := by
  intro μ p L Tp ht h4 hp hL hT
  unfold f_X6_readColumn col
  have hg1 := hg p hp
  obtain ⟨r, fr, hr⟩ := hP μ p L Tp ht h4 hp hL (by omega)
  simp only at hr
  cases hs : P p with
  | error e =>
    rw [hs] at hr
    simp only at hr ⊢
    rw [hr.1, bd_some, if_pos rfl]
    exact ⟨r, fr, rfl, hr.2⟩
  | ok q =>
    rw [hs] at hr hg1
    simp only at hr ⊢
    obtain ⟨a1, a2, a3, a4, a5, a6⟩ := hr
    obtain ⟨g1, g2, g3, g4, g5, g6, g7⟩ := hg1
    rw [a1, bd_some, if_neg (show ¬ (1 : Int32) = 0 by decide), a4, a5]
    exact colC hB hP hg hL (by omega) g3 g4 8 FU 0 q.1 q.2.2.1 q.2.2.2 r μ rfl (by decide) (tp_R ht fr) a3 g2 fr a2 a6 g6
theorem rowC {T : List Nat} {rk : Nat → Int32 → Int32 → Int32 → Int32 → Mem → Option (Int32 × Mem)} {P : Nat → Rs} {B C L Tp h : Nat} {v3 : Int32} (hB : B ≤ 300) (hC : C ≤ 300) (hP : ∀ (μ : Mem) (p L Tp : Nat), tpC μ T → μ.1 3 4 = nI p → p ≤ T.length → L ≤ B → Tp ≤ C → CRs μ L Tp (rk 1 (nI L) (nI Tp) v3 0 μ) (P p)) (hg : ∀ p, p ≤ T.length → gdR T p (P p)) (hL : L + 8 ≤ B) (hT : Tp ≤ C) (hh : 1 ≤ h) (hh8 : h ≤ 8) : ∀ (m n i p w : Nat) (f : Pic) (μ μ0 : Mem), i + m = 8 → m < n → tpC μ T → μ.1 3 4 = nI p → p ≤ T.length → frR μ0 μ → sm2 μ0 μ → bxR μ0 μ L Tp w h f → w ≤ 8 → CRs μ0 L Tp (f_X6_readRow_L27 rk (nI L) (nI Tp) v3 (nI h) (fun w17 μ18 => (some ((1 : Int32), (sI (sI μ18 3 5 w17) 3 6 (nI h))))) n (nI w) (nI i) μ) (rowL T P m p w h f) := by
  intro m
  have fin : ∀ (p w : Nat) (f : Pic) (μ μ0 : Mem), μ.1 3 4 = nI p → frR μ0 μ → sm2 μ0 μ → bxR μ0 μ L Tp w h f → CRs μ0 L Tp (some ((1 : Int32), (sI (sI μ 3 5 (nI w)) 3 6 (nI h)))) (.ok (p, w, h, f)) := by
    intro p w f μ μ0 h4 hf h2 hb
    refine ⟨_, frR.tr hf (frR.tr frR_3 frR_3), rfl, ⟨?_, ?_⟩, ?_, ?_, sI_same _ _ _ _, ?_⟩
    · rw [sI_sl (by decide), sI_sl (by decide)]; exact h2.1
    · rw [sI_sl (by decide), sI_sl (by decide)]; exact h2.2
    · rw [sI_sl (by decide), sI_sl (by decide)]; exact h4
    · rw [sI_sl (by decide), sI_same]
    · exact ⟨fun x y h1 h3 h5 => by rw [cel_3, cel_3]; exact hb.1 x y h1 h3 h5, fun h1 h3 c q h5 h6 => by rw [cel_3, cel_3]; exact hb.2 h1 h3 c q h5 h6⟩
  induction m with
  | zero =>
    intro n i p w f μ μ0 hi hn ht h4 hp hf h2 hb hw8
    obtain ⟨n', rfl⟩ : ∃ n', n = n' + 1 := ⟨n - 1, by omega⟩
    have : i = 8 := by omega
    subst this
    rw [f_X6_readRow_L27, if_pos (by decide)]
    exact fin p w f μ μ0 h4 hf h2 hb
  | succ m ih =>
    intro n i p w f μ μ0 hi hn ht h4 hp hf h2 hb hw8
    obtain ⟨n', rfl⟩ : ∃ n', n = n' + 1 := ⟨n - 1, by omega⟩
    have hi8 : ¬ (8 : Int32) ≤ nI i := nI_ge (b := 8) (by omega) (by omega)
    have hn2 := nx_le hp
    have hl := ht.2.1
    obtain ⟨r1, e1, k1, f1⟩ := nextC ht h4 hp
    have hf1 := frR.tr hf (frR_N f1)
    have h21 : sm2 μ0 r1 := ⟨by rw [f1.2.1 2 (by decide)]; exact h2.1, by rw [f1.2.1 3 (by decide)]; exact h2.2⟩
    have hb1 : bxR μ0 r1 L Tp w h f := ⟨fun x y a1 a2 a3 => by rw [cel_N f1]; exact hb.1 x y a1 a2 a3, fun a1 a2 c q a3 a4 => by rw [cel_N f1]; exact hb.2 a1 a2 c q a3 a4⟩
    rw [f_X6_readRow_L27, if_neg hi8, e1, bd_some]
    unfold rowL
    have c124 : byv T (nx T p) = (124 : Int32) ↔ bq T (nx T p) = 124 := byv_eq (c := 124) ht.2.2 (by decide)
    by_cases hs : bq T (nx T p) = 124
    · rw [if_pos (c124.mpr hs), if_pos hs, k1, nI_s, nI_add]
      have hq := bq_lt hs (by decide)
      have hP1 := hP (sI r1 3 4 (nI (nx T p + 1))) (nx T p + 1) (L + w) Tp (tp_R ht (frR.tr (frR_N f1) frR_3)) (sI_same _ _ _ _) (by omega) (by omega) hT
      have hg1 := hg (nx T p + 1) (by omega)
      have hfs : frR μ0 (sI r1 3 4 (nI (nx T p + 1))) := frR.tr hf1 frR_3
      obtain ⟨r, fr, hr⟩ := hP1
      cases hs2 : P (nx T p + 1) with
      | error e =>
        rw [hs2] at hr
        simp only at hr ⊢
        rw [hr.1, bd_some, if_pos rfl]
        exact ⟨r, frR.tr hfs fr, rfl, hr.2⟩
      | ok q =>
        rw [hs2] at hr hg1
        simp only at hr ⊢
        obtain ⟨a1, a2, a3, a4, a5, a6⟩ := hr
        obtain ⟨g1, g2, g3, g4, g5, g6, g7⟩ := hg1
        rw [a1, bd_some, if_neg (show ¬ (1 : Int32) = 0 by decide), a5, a4, nI_add]
        have cw : nI q.2.2.1 = nI h ↔ q.2.2.1 = h := ⟨fun z => nI_inj (by omega) (by omega) z, fun z => by rw [z]⟩
        by_cases hqw : q.2.2.1 = h
        · rw [if_pos (cw.mpr hqw), if_pos hqw]
          by_cases h8 : w + q.2.1 ≤ 8
          · rw [if_pos ((le8 (by omega)).mpr h8), if_pos h8, nI_s]
            have hsm : sm2 μ0 r := ⟨by rw [a2.1, sI_sl (by decide)]; exact h21.1, by rw [a2.2, sI_sl (by decide)]; exact h21.2⟩
            have hbx : bxR μ0 r L Tp (w + q.2.1) h (hst f w q.2.2.2) := by
              refine ⟨fun x y b1 b2 b3 => ?_, fun b1 b2 c t b3 b4 => ?_⟩
              · rw [a6.1 x y b1 b2 (by omega), cel_3, hb1.1 x y b1 b2 (by omega)]
              · unfold hst
                by_cases hth : c < w
                · rw [if_pos hth, a6.1 (L + c) (Tp + t) (by omega) (by omega) (by omega), cel_3, hb1.2 (by omega) b2 c t hth b4]
                · rw [if_neg hth]
                  have := a6.2 (by omega) (by omega) (c - w) t (by omega) (by omega)
                  rw [show L + w + (c - w) = L + c by omega] at this
                  exact this
            exact ih n' (i + 1) q.1 (w + q.2.1) (hst f w q.2.2.2) r μ0 (by omega) (by omega) (tp_R ht (frR.tr (frR.tr (frR_N f1) frR_3) fr)) a3 g2 (frR.tr hfs fr) hsm hbx h8
          · rw [if_neg (fun z => h8 ((le8 (by omega)).mp z)), if_neg h8]
            exact CRs_err (k := 3) (frR.tr hfs fr)
        · rw [if_neg (fun z => hqw (cw.mp z)), if_neg hqw]
          exact CRs_err (k := 2) (frR.tr hfs fr)
    · rw [if_neg (fun z => hs (c124.mp z)), if_neg hs]
      exact fin (nx T p) w f r1 μ0 k1 hf1 h21 hb1
theorem rowOK {T : List Nat} {rk : Nat → Int32 → Int32 → Int32 → Int32 → Mem → Option (Int32 × Mem)} {P : Nat → Rs} {B C : Nat} {v3 : Int32} (hB : B ≤ 300) (hC : C ≤ 300) (hP : ∀ (μ : Mem) (p L Tp : Nat), tpC μ T → μ.1 3 4 = nI p → p ≤ T.length → L ≤ B → Tp ≤ C → CRs μ L Tp (rk 1 (nI L) (nI Tp) v3 0 μ) (col T P p)) (hg : ∀ p, p ≤ T.length → gdR T p (P p)) : ∀ (μ : Mem) (p L Tp : Nat), tpC μ T → μ.1 3 4 = nI p → p ≤ T.length → L + 8 ≤ B → Tp ≤ C → CRs μ L Tp (f_X6_readRow rk (nI L) (nI Tp) v3 μ) (row T P p) := by
  intro μ p L Tp ht h4 hp hL hT
  unfold f_X6_readRow row
  have hg1 := gd_col hg p hp
  obtain ⟨r, fr, hr⟩ := hP μ p L Tp ht h4 hp (by omega) hT
  cases hs : col T P p with
  | error e =>
    rw [hs] at hr
    simp only at hr ⊢
    rw [hr.1, bd_some, if_pos rfl]
    exact ⟨r, fr, rfl, hr.2⟩
  | ok q =>
    rw [hs] at hr hg1
    simp only at hr ⊢
    obtain ⟨a1, a2, a3, a4, a5, a6⟩ := hr
    obtain ⟨g1, g2, g3, g4, g5, g6, g7⟩ := hg1
    rw [a1, bd_some, if_neg (show ¬ (1 : Int32) = 0 by decide), a4, a5]
    exact rowC hB hC hP (gd_col hg) hL hT g5 g6 8 FU 0 q.1 q.2.1 q.2.2.2 r μ rfl (by decide) (tp_R ht fr) a3 g2 fr a2 a6 g4
