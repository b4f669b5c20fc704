/-! door: the class reads a part -/
def brk (T : List Nat) (P : Nat → Rs) (p : Nat) : Rs := match row T P p with
  | .error e => .error e
  | .ok q => if bq T (nx T q.1) = 41 then .ok (nx T q.1 + 1, q.2.1, q.2.2.1, q.2.2.2) else .error (1, nx T q.1)
def chg (P : Nat → Rs) (dn : Bool) (p : Nat) : Rs := match P p with
  | .error e => .error e
  | .ok q => .ok (q.1, q.2.1, q.2.2.1, trn dn q.2.1 q.2.2.1 q.2.2.2)
def rpt (P : Nat → Rs) (t s : Nat) : Rs := match P (s + 1) with
  | .error e => .error e
  | .ok q => if q.2.1 * t ≤ 8 then .ok (q.1, q.2.1 * t, q.2.2.1, rep q.2.2.2 q.2.1) else .error (3, s)
theorem x16I : ∀ v, v < 64 → nI v ^^^ 16 = nI (v ^^^ 16) := by decide +kernel
theorem x32I : ∀ v, v < 64 → nI v ^^^ 32 = nI (v ^^^ 32) := by decide +kernel
theorem brkC {T : List Nat} {rk : Nat → Int32 → Int32 → Int32 → Int32 → Mem → Option (Int32 × Mem)} {P : Nat → Rs} {B : Nat} {v3 : Int32} (hg : ∀ p, p ≤ T.length → gdR T p (P p)) (hP : rdOK T (fun a b μ => rk 0 a b v3 0 μ) (row T P) B) : rdOK T (fun a b μ => f_X6_readBracket rk a b v3 μ) (brk T P) B := by
  intro μ p L Tp ht h4 hp hL hT
  simp only
  unfold f_X6_readBracket brk
  have hg1 := gd_row hg p hp
  obtain ⟨r, fr, hr⟩ := hP μ p L Tp ht h4 hp hL hT
  simp only at hr
  cases hs : row T P p with
  | error e =>
    rw [hs] at hr
    simp only at hr ⊢
    rw [hr.1, bd_some, if_pos rfl]
    exact ⟨r, fr, rfl, hr.2⟩
  | ok q =>
    rw [hs] at hr hg1
    simp only at hr ⊢
    obtain ⟨a1, a2, a3, a4, a5, a6⟩ := hr
    obtain ⟨g1, g2, g3, g4, g5, g6, g7⟩ := hg1
    obtain ⟨r1, e1, k1, f1⟩ := nextC (tp_R ht fr) a3 g2
    rw [a1, bd_some, if_neg (show ¬ (1 : Int32) = 0 by decide), e1, bd_some]
    have c41 : byv T (nx T q.1) = (41 : Int32) ↔ bq T (nx T q.1) = 41 := byv_eq (c := 41) ht.2.2 (by decide)
    by_cases h41 : bq T (nx T q.1) = 41
    · rw [if_pos (c41.mpr h41), if_pos h41, k1, nI_s]
      refine ⟨_, frR.tr fr (frR.tr (frR_N f1) frR_3), rfl, ⟨?_, ?_⟩, sI_same _ _ _ _, ?_, ?_, ?_⟩
      · rw [sI_sl (by decide), f1.2.1 2 (by decide)]; exact a2.1
      · rw [sI_sl (by decide), f1.2.1 3 (by decide)]; exact a2.2
      · rw [sI_sl (by decide), f1.2.1 5 (by decide)]; exact a4
      · rw [sI_sl (by decide), f1.2.1 6 (by decide)]; exact a5
      · exact ⟨fun x y h1 h3 h5 => by rw [cel_3, cel_N f1]; exact a6.1 x y h1 h3 h5, fun h1 h3 c q h5 h6 => by rw [cel_3, cel_N f1]; exact a6.2 h1 h3 c q h5 h6⟩
    · rw [if_neg (fun z => h41 (c41.mp z)), if_neg h41, k1]
      exact CRs_err (k := 1) (frR.tr fr (frR_N f1))
theorem chgC {T : List Nat} {rk : Nat → Int32 → Int32 → Int32 → Int32 → Mem → Option (Int32 × Mem)} {P : Nat → Rs} {B : Nat} {v3 v4 : Int32} (hB : B ≤ 300) (hg : ∀ p, p ≤ T.length → gdR T p (P p)) (hP : rdOK T (fun a b μ => rk 2 a b v3 0 μ) P B) (dn : Bool) (hv : v4 = 0 ↔ dn = false) : rdOK T (fun a b μ => f_X6_readChanged rk a b v3 v4 μ) (chg P dn) B := by
  intro μ p L Tp ht h4 hp hL hT
  simp only
  unfold f_X6_readChanged chg
  have hg1 := hg p hp
  obtain ⟨r, fr, hr⟩ := hP μ p L Tp ht h4 hp hL hT
  simp only at hr
  cases hs : P p with
  | error e =>
    rw [hs] at hr
    simp only at hr ⊢
    rw [hr.1, bd_some, if_pos rfl]
    exact ⟨r, fr, rfl, hr.2⟩
  | ok q =>
    rw [hs] at hr hg1
    simp only at hr ⊢
    obtain ⟨a1, a2, a3, a4, a5, a6⟩ := hr
    obtain ⟨g1, g2, g3, g4, g5, g6, g7⟩ := hg1
    rw [a1, bd_some, if_neg (show ¬ (1 : Int32) = 0 by decide), a4, a5]
    unfold f_X1_changeSides
    obtain ⟨r1, e1, f1, o1, w1⟩ := sidesL (L := L) (Tp := Tp) (w := q.2.1) (h := q.2.2.1) (K := fun μ10 => some μ10) (by omega) (by omega) g3 g4 g6 q.2.2.1 FU Tp r rfl (show q.2.2.1 < 8192 by omega)
    rw [e1, bi_some]
    have e5 : r1.1 3 5 = nI q.2.1 := by rw [f1.1 3 (by decide)]; exact a4
    have e6 : r1.1 3 6 = nI q.2.2.1 := by rw [f1.1 3 (by decide)]; exact a5
    cases dn with
    | false =>
      rw [if_pos (hv.mpr rfl)]
      refine ⟨r1, frR.tr fr (frR_5 f1), rfl, ⟨?_, ?_⟩, ?_, e5, e6, fun x y h1 h2 h3 => ?_, fun h1 h2 c t h3 h5 => ?_⟩
      · rw [f1.1 3 (by decide)]; exact a2.1
      · rw [f1.1 3 (by decide)]; exact a2.2
      · rw [f1.1 3 (by decide)]; exact a3
      · rw [o1 x y h1 h2 (by simp only at h3; omega), a6.1 x y h1 h2 h3]
      · simp only at h1 h2 h3 h5
        rw [w1 h1 (L + c) (Tp + t) (by omega) (by omega) (by omega) (by omega) (by omega)]
        have := a6.2 h1 h2 (q.2.1 - 1 - c) t (by omega) h5
        rw [show 2 * L + q.2.1 - 1 - (L + c) = L + (q.2.1 - 1 - c) by omega, this, x16I _ (g7 _ _ (by omega) (by omega)).1]
        rfl
    | true =>
      have hv4 : ¬ v4 = 0 := fun z => by have := hv.mp z; cases this
      rw [if_neg hv4, e5, e6]
      unfold f_X1_changeEnds
      obtain ⟨r2, e2, f2, o2, w2⟩ := endsL (L := L) (Tp := Tp) (w := q.2.1) (h := q.2.2.1) (K := fun μ10 => some μ10) (by omega) (by omega) g5 g4 g6 q.2.1 FU L r1 rfl (show q.2.1 < 8192 by omega)
      rw [e2, bi_some]
      refine ⟨r2, frR.tr fr (frR.tr (frR_5 f1) (frR_5 f2)), rfl, ⟨?_, ?_⟩, ?_, ?_, ?_, fun x y h1 h2 h3 => ?_, fun h1 h2 c t h3 h5 => ?_⟩
      · rw [f2.1 3 (by decide), f1.1 3 (by decide)]; exact a2.1
      · rw [f2.1 3 (by decide), f1.1 3 (by decide)]; exact a2.2
      · rw [f2.1 3 (by decide), f1.1 3 (by decide)]; exact a3
      · rw [f2.1 3 (by decide)]; exact e5
      · rw [f2.1 3 (by decide)]; exact e6
      · simp only at h3
        rw [o2 x y h1 h2 (by omega), o1 x y h1 h2 (by omega), a6.1 x y h1 h2 (by omega)]
      · simp only at h1 h2 h3 h5
        rw [w2 h2 (L + c) (Tp + t) (by omega) (by omega) (by omega) (by omega) (by omega), w1 h1 (L + c) _ (by omega) (by omega) (by omega) (by omega) (by omega)]
        have := a6.2 h1 h2 (q.2.1 - 1 - c) (q.2.2.1 - 1 - t) (by omega) (by omega)
        have hk := g7 (q.2.1 - 1 - c) (q.2.2.1 - 1 - t) (by omega) (by omega)
        rw [show 2 * L + q.2.1 - 1 - (L + c) = L + (q.2.1 - 1 - c) by omega, show 2 * Tp + q.2.2.1 - 1 - (Tp + t) = Tp + (q.2.2.1 - 1 - t) by omega, this, x16I _ hk.1, x32I _ (x16 _ hk.1).1]
        rfl
theorem rptC {T : List Nat} {rk : Nat → Int32 → Int32 → Int32 → Int32 → Mem → Option (Int32 × Mem)} {P : Nat → Rs} {B t : Nat} {v3 : Int32} (hB : B ≤ 300) (ht1 : 1 ≤ t) (ht9 : t ≤ 9) (hg : ∀ p, p ≤ T.length → gdR T p (P p)) (hP : rdOK T (fun a b μ => rk 2 a b v3 0 μ) P B) : ∀ (μ : Mem) (s L Tp : Nat), tpC μ T → μ.1 3 4 = nI s → s < T.length → L ≤ B → Tp ≤ B → CRs μ L Tp (f_X6_readRepeated rk (nI L) (nI Tp) v3 (nI t) μ) (rpt P t s) := by
  intro μ s L Tp ht h4 hp hL hT
  unfold f_X6_readRepeated rpt
  have hg1 := hg (s + 1) (by omega)
  obtain ⟨r, fr, hr⟩ := hP (sI μ 3 4 (nI (s + 1))) (s + 1) L Tp (tp_R ht frR_3) (sI_same _ _ _ _) (by omega) hL hT
  simp only at hr
  rw [h4, nI_s]
  cases hs : P (s + 1) with
  | error e =>
    rw [hs] at hr
    simp only at hr ⊢
    rw [hr.1, bd_some, if_pos rfl]
    exact ⟨r, frR.tr frR_3 fr, rfl, hr.2⟩
  | ok q =>
    rw [hs] at hr hg1
    simp only at hr ⊢
    obtain ⟨a1, a2, a3, a4, a5, a6⟩ := hr
    obtain ⟨g1, g2, g3, g4, g5, g6, g7⟩ := hg1
    have hmt : q.2.1 * t ≤ 72 := Nat.le_trans (Nat.mul_le_mul g4 ht9) (by decide)
    have hm1 : q.2.1 ≤ q.2.1 * t := Nat.le_mul_of_pos_right _ ht1
    rw [a1, bd_some, if_neg (show ¬ (1 : Int32) = 0 by decide), a4, a5, pk_mul]
    by_cases h8 : q.2.1 * t ≤ 8
    · rw [if_pos ((le8 (by omega)).mpr h8), if_pos h8]
      unfold f_X1_repeat
      obtain ⟨r1, e1, f1, o1, w1⟩ := repL (L := L) (Tp := Tp) (w := q.2.1) (h := q.2.2.1) (t := t) (K := fun μ7 => some μ7) (by omega) (by omega) g3 ht1 (by omega) g6 q.2.2.1 FU Tp r rfl (show q.2.2.1 < 8192 by omega)
      have e5 : r1.1 3 5 = nI q.2.1 := by rw [f1.1 3 (by decide)]; exact a4
      rw [e1, bi_some, e5, pk_mul]
      refine ⟨_, frR.tr (frR.tr frR_3 fr) (frR.tr (frR_5 f1) frR_3), rfl, ⟨?_, ?_⟩, ?_, sI_same _ _ _ _, ?_, fun x y h1 h2 h3 => ?_, fun h1 h2 c y h3 h5 => ?_⟩
      · rw [sI_sl (by decide), f1.1 3 (by decide), a2.1, sI_sl (by decide)]
      · rw [sI_sl (by decide), f1.1 3 (by decide), a2.2, sI_sl (by decide)]
      · rw [sI_sl (by decide), f1.1 3 (by decide)]; exact a3
      · rw [sI_sl (by decide), f1.1 3 (by decide)]; exact a5
      · simp only at h3
        rw [cel_3, o1 x y h1 h2 (by omega), a6.1 x y h1 h2 (by omega), cel_3]
      · simp only at h1 h2 h3 h5
        rw [cel_3, w1 h1 c (Tp + y) (by omega) (by omega) (by omega) h3]
        exact a6.2 (by omega) h2 (c % q.2.1) y (Nat.mod_lt _ g3) h5
    · rw [if_neg (fun z => h8 ((le8 (by omega)).mp z)), if_neg h8]
      exact CRs_err (k := 3) (frR.tr frR_3 fr)
theorem drawC {μ : Mem} {L Tp v : Nat} (hL : L ≤ 1000) (hT : Tp ≤ 1000) {p : Nat} (h4 : μ.1 3 4 = nI p) : CRs μ L Tp (f_X6_drawPiece (nI L) (nI Tp) (nI v) μ) (.ok (p, 1, 1, fun _ _ => v)) := by
  unfold f_X6_drawPiece
  obtain ⟨r, e, f, s, o⟩ := setCell4 (μ := μ) (v := nI v) hL hT
  rw [e, bi_some]
  refine ⟨_, frR.tr (frR_5 f) (frR.tr frR_3 frR_3), rfl, ⟨?_, ?_⟩, ?_, ?_, sI_same _ _ _ _, fun x y h1 h2 h3 => ?_, fun h1 h2 c q h3 h5 => ?_⟩
  · rw [sI_sl (by decide), sI_sl (by decide), f.1 3 (by decide)]
  · rw [sI_sl (by decide), sI_sl (by decide), f.1 3 (by decide)]
  · rw [sI_sl (by decide), sI_sl (by decide), f.1 3 (by decide)]; exact h4
  · rw [sI_sl (by decide), sI_same]; rfl
  · simp only at h3
    rw [cel_3, cel_3, o x y h1 h2 (by omega)]
  · simp only at h1 h2 h3 h5
    rw [cel_3, cel_3, show L + c = L by omega, show Tp + q = Tp by omega]
    exact s (by omega) (by omega)
