/-! door: the class reads a whole text -/
def inn (inner : Option (Nat → Rs)) (e : Rs) (g : (Nat → Rs) → Rs) : Rs := match inner with
  | none => e
  | some P => g P
theorem body_in {T : List Nat} {P : Nat → Rs} {p : Nat} : bodyP T (some P) p =
  (if 48 ≤ bq T (nx T p) ∧ bq T (nx T p) ≤ 57 then
    (if 50 ≤ bq T (nx T p) ∧ bq T (nx T (nx T p + 1)) = 120 then rpt P (bq T (nx T p) - 48) (nx T (nx T p + 1))
    else .ok (if 50 ≤ bq T (nx T p) then nx T (nx T p + 1) else nx T p + 1, 1, 1, fun _ _ => bq T (nx T p) - 48))
  else if bq T (nx T p) = 40 then brk T P (nx T p + 1)
  else if bq T (nx T p) = 33 ∨ bq T (nx T p) = 126 then chg P (decide (bq T (nx T p) = 126)) (nx T p + 1)
  else .error (1, nx T p)) := rfl
theorem body_no {T : List Nat} {p : Nat} : bodyP T none p =
  (if 48 ≤ bq T (nx T p) ∧ bq T (nx T p) ≤ 57 then
    (if 50 ≤ bq T (nx T p) ∧ bq T (nx T (nx T p + 1)) = 120 then .error (1, nx T p)
    else .ok (if 50 ≤ bq T (nx T p) then nx T (nx T p + 1) else nx T p + 1, 1, 1, fun _ _ => bq T (nx T p) - 48))
  else if bq T (nx T p) = 40 then .error (1, nx T p)
  else if bq T (nx T p) = 33 ∨ bq T (nx T p) = 126 then .error (1, nx T p)
  else .error (1, nx T p)) := rfl
theorem partC {T : List Nat} {rk : Nat → Int32 → Int32 → Int32 → Int32 → Mem → Option (Int32 × Mem)} {inner : Option (Nat → Rs)} {B o : Nat} (hB : B ≤ 300) (ho : o ≤ 6) (hno : o = 6 → inner = none) (hyes : o < 6 → ∃ P, inner = some P ∧ rdOK T (fun a b μ => rk 3 a b (nI (o + 1)) 0 μ) (brk T P) B ∧ (∀ v4 dn, (v4 = 0 ∧ dn = false ∨ v4 = 1 ∧ dn = true) → rdOK T (fun a b μ => rk 4 a b (nI (o + 1)) v4 μ) (chg P dn) B) ∧ ∀ t, 1 ≤ t → t ≤ 9 → ∀ (μ : Mem) (s L Tp : Nat), tpC μ T → μ.1 3 4 = nI s → s < T.length → L ≤ B → Tp ≤ B → CRs μ L Tp (rk 5 (nI L) (nI Tp) (nI (o + 1)) (nI t) μ) (rpt P t s)) : rdOK T (fun a b μ => f_X6_readPart rk a b (nI o) μ) (bodyP T inner) B := by
  intro μ p L Tp ht h4 hp hL hT
  simp only
  have hn := nx_ge (T := T) (p := p)
  have hn2 := nx_le hp
  have hl := ht.2.1
  have hb := ht.2.2
  obtain ⟨r1, e1, k1, f1⟩ := nextC ht h4 hp
  obtain ⟨b, hbe⟩ : ∃ b, b = bq T (nx T p) := ⟨_, rfl⟩
  have hbr := bq_rng hb (nx T p)
  rw [← hbe] at hbr
  have c6 : nI o < (6 : Int32) ↔ o < 6 := by rw [show (6 : Int32) = iz 6 by decide, iz_nat, iz_lt (by omega) (by omega) (by omega) (by omega)]; omega
  have cd : ((48 : Int32) ≤ byv T (nx T p) ∧ byv T (nx T p) ≤ (57 : Int32)) ↔ (48 ≤ b ∧ b ≤ 57) := by rw [hbe]; exact byv_rng (a := 48) (b := 57) hb (by decide) (by decide)
  have cr : ((50 : Int32) ≤ byv T (nx T p) ∧ byv T (nx T p) ≤ (57 : Int32)) ↔ (50 ≤ b ∧ b ≤ 57) := by rw [hbe]; exact byv_rng (a := 50) (b := 57) hb (by decide) (by decide)
  have c40 : byv T (nx T p) = (40 : Int32) ↔ b = 40 := by rw [hbe]; exact byv_eq (c := 40) hb (by decide)
  have c33 : byv T (nx T p) = (33 : Int32) ↔ b = 33 := by rw [hbe]; exact byv_eq (c := 33) hb (by decide)
  have c126 : byv T (nx T p) = (126 : Int32) ↔ b = 126 := by rw [hbe]; exact byv_eq (c := 126) hb (by decide)
  obtain ⟨s1, hs1⟩ : ∃ s1, s1 = sI r1 3 4 (nI (nx T p + 1)) := ⟨_, rfl⟩
  have fs : frN μ s1 := by rw [hs1]; exact frN.tr f1 frN_at
  have hts := tp_N ht fs
  have k4 : s1.1 3 4 = nI (nx T p + 1) := by rw [hs1]; exact sI_same _ _ _ _
  have back : ∀ {v : Option (Int32 × Mem)} {s : Rs} {q : Mem}, frN μ q → CRs q L Tp v s → CRs μ L Tp v s := fun f h => CRs_back (frR_N f) ⟨f.2.1 2 (by decide), f.2.1 3 (by decide)⟩ (fun x y _ _ => cel_N f) h
  unfold f_X6_readPart
  rw [e1, bd_some, isFrom_eq, bd_some, k1, nI_s, ← hs1]
  have noIn : ∀ (R : Rs), (¬ o < 6 → R = .error (1, nx T p)) → ∀ {q : Mem} (v : Option (Int32 × Mem)), frN μ q → (o < 6 → CRs μ L Tp v R) → CRs μ L Tp (if nI o < (6 : Int32) then v else bd (f_X6_refuse (1 : Int32) (nI (nx T p)) q) (fun r μ => bz r μ)) R := by
    intro R hR q v fq hv
    by_cases h6 : o < 6
    · rw [if_pos (c6.mpr h6)]; exact hv h6
    · rw [if_neg (fun z => h6 (c6.mp z)), hR h6]
      exact CRs_err (k := 1) (frR_N fq)
  by_cases hd : 48 ≤ b ∧ b ≤ 57
  · rw [b01_t (cd.mpr hd), if_neg (show ¬ (1 : Int32) = 0 by decide), isFrom_eq, bd_some]
    have hq := bq_lt hbe.symm (by omega)
    have hn3 := nx_ge (T := T) (p := nx T p + 1)
    have hn4 := nx_le (T := T) (p := nx T p + 1) (by omega)
    have e48 : byv T (nx T p) - 48 = nI (b - 48) := by
      unfold byv
      rw [← hbe, if_neg (by omega), iz_nat, show (48 : Int32) = iz 48 by decide, iz_sub, iz_nat]; exact congrArg iz (by omega)
    rw [e48]
    have okd : ∀ (q : Mem) (u : Nat), frN μ q → q.1 3 4 = nI u → CRs μ L Tp (bd (f_X6_drawPiece (nI L) (nI Tp) (nI (b - 48)) q) (fun r μ => bz r μ)) (.ok (u, 1, 1, fun _ _ => b - 48)) := fun q u fq hu => CRs_bz (back fq (drawC (by omega) (by omega) hu))
    have hbody : bodyP T inner p = if 50 ≤ b ∧ bq T (nx T (nx T p + 1)) = 120 then inn inner (.error (1, nx T p)) (fun P => rpt P (b - 48) (nx T (nx T p + 1))) else .ok (if 50 ≤ b then nx T (nx T p + 1) else nx T p + 1, 1, 1, fun _ _ => b - 48) := by
      cases inner with
      | none => rw [body_no, ← hbe, if_pos hd]; rfl
      | some P => rw [body_in, ← hbe, if_pos hd]; rfl
    rw [hbody]
    by_cases h5 : 50 ≤ b
    · rw [b01_t (cr.mpr ⟨h5, hd.2⟩), if_neg (show ¬ (1 : Int32) = 0 by decide)]
      obtain ⟨r2, e2, k2, f2⟩ := nextC hts k4 (by omega)
      have c120 : byv T (nx T (nx T p + 1)) = (120 : Int32) ↔ bq T (nx T (nx T p + 1)) = 120 := byv_eq (c := 120) hb (by decide)
      have fq := frN.tr fs f2
      rw [e2, bd_some]
      by_cases hx : bq T (nx T (nx T p + 1)) = 120
      · have hq2 := bq_lt hx (by decide)
        rw [if_pos (c120.mpr hx), if_pos (show 50 ≤ b ∧ bq T (nx T (nx T p + 1)) = 120 from ⟨h5, hx⟩), nI_s]
        refine noIn _ (fun h6 => by rw [hno (by omega)]; rfl) _ fq (fun h6 => ?_)
        obtain ⟨P, hP, -, -, hR⟩ := hyes h6
        rw [hP]
        exact CRs_bz (back fq (hR (b - 48) (by omega) (by omega) r2 (nx T (nx T p + 1)) L Tp (tp_N hts f2) k2 hq2 hL hT))
      · rw [if_neg (fun z => hx (c120.mp z)), if_neg (fun z => hx z.2), if_pos h5]
        exact okd r2 _ fq k2
    · rw [b01_f (fun z => h5 (cr.mp z).1), if_pos rfl, if_neg (fun z => h5 z.1), if_neg h5]
      exact okd s1 _ fs k4
  · rw [b01_f (fun z => hd (cd.mp z)), if_pos rfl]
    have hbody : bodyP T inner p = if b = 40 then inn inner (.error (1, nx T p)) (fun P => brk T P (nx T p + 1)) else if b = 33 ∨ b = 126 then inn inner (.error (1, nx T p)) (fun P => chg P (decide (b = 126)) (nx T p + 1)) else .error (1, nx T p) := by
      cases inner with
      | none => rw [body_no, ← hbe, if_neg hd]; rfl
      | some P => rw [body_in, ← hbe, if_neg hd]; rfl
    rw [hbody]
    have nr : ∀ {q : Mem} {α : Type} (f : Int32 → Mem → Option α), ¬ (50 ≤ b ∧ b ≤ 57) → bd (f_X9_isFrom (byv T (nx T p)) (50 : Int32) (57 : Int32) q) f = f 0 q := fun f h => by
      rw [isFrom_eq, bd_some, b01_f (fun z => h (cr.mp z))]
    by_cases h40 : b = 40
    · rw [if_pos (c40.mpr h40), if_pos h40, nr _ (by omega), if_pos rfl, nI_s]
      have hq := bq_lt hbe.symm (by omega)
      refine noIn _ (fun h6 => by rw [hno (by omega)]; rfl) _ fs (fun h6 => ?_)
      obtain ⟨P, hP, hR, -, -⟩ := hyes h6
      rw [hP]
      exact CRs_bz (back fs (hR s1 (nx T p + 1) L Tp hts k4 (by omega) hL hT))
    · rw [if_neg (fun z => h40 (c40.mp z)), if_neg h40]
      by_cases h33 : b = 33
      · rw [if_pos (c33.mpr h33), if_pos (Or.inl h33), nr _ (by omega), if_pos rfl, nI_s]
        have hq := bq_lt hbe.symm (by omega)
        refine noIn _ (fun h6 => by rw [hno (by omega)]; rfl) _ fs (fun h6 => ?_)
        obtain ⟨P, hP, -, hR, -⟩ := hyes h6
        rw [hP, if_neg (fun z => by have := c126.mp z; omega)]
        show CRs μ L Tp _ (chg P (decide (b = 126)) (nx T p + 1))
        rw [decide_eq_false (by omega)]
        exact CRs_bz (back fs (hR 0 false (Or.inl ⟨rfl, rfl⟩) s1 (nx T p + 1) L Tp hts k4 (by omega) hL hT))
      · rw [if_neg (fun z => h33 (c33.mp z))]
        by_cases h126 : b = 126
        · rw [if_pos (c126.mpr h126), if_pos (Or.inr h126), nr _ (by omega), if_pos rfl, nI_s]
          have hq := bq_lt hbe.symm (by omega)
          refine noIn _ (fun h6 => by rw [hno (by omega)]; rfl) _ fs (fun h6 => ?_)
          obtain ⟨P, hP, -, hR, -⟩ := hyes h6
          rw [hP]
          show CRs μ L Tp _ (chg P (decide (b = 126)) (nx T p + 1))
          rw [decide_eq_true h126]
          exact CRs_bz (back fs (hR 1 true (Or.inr ⟨rfl, rfl⟩) s1 (nx T p + 1) L Tp hts k4 (by omega) hL hT))
        · rw [if_neg (fun z => h126 (c126.mp z)), if_neg (by omega)]
          exact CRs_err (k := 1) (frR_N f1)
theorem rd0 {d : Nat} {a b c e : Int32} {μ : Mem} : RD (d + 1) 0 a b c e μ = f_X6_readRow (RD d) a b c μ := rfl
theorem rd1 {d : Nat} {a b c e : Int32} {μ : Mem} : RD (d + 1) 1 a b c e μ = f_X6_readColumn (RD d) a b c μ := rfl
theorem rd2 {d : Nat} {a b c e : Int32} {μ : Mem} : RD (d + 1) 2 a b c e μ = f_X6_readPart (RD d) a b c μ := rfl
theorem rd3 {d : Nat} {a b c e : Int32} {μ : Mem} : RD (d + 1) 3 a b c e μ = f_X6_readBracket (RD d) a b c μ := rfl
theorem rd4 {d : Nat} {a b c e : Int32} {μ : Mem} : RD (d + 1) 4 a b c e μ = f_X6_readChanged (RD d) a b c e μ := rfl
theorem rd5 {d : Nat} {a b c e : Int32} {μ : Mem} : RD (d + 1) 5 a b c e μ = f_X6_readRepeated (RD d) a b c e μ := rfl
theorem rdPart {T : List Nat} : ∀ (k d : Nat), k ≤ 6 → 4 * k + 1 ≤ d → rdOK T (fun a b μ => RD d 2 a b (nI (6 - k)) 0 μ) (part T k) (20 * (6 - k) + 10) := by
  intro k
  induction k with
  | zero =>
    intro d hk hd
    obtain ⟨d', rfl⟩ : ∃ d', d = d' + 1 := ⟨d - 1, by omega⟩
    have := partC (T := T) (rk := RD d') (inner := none) (B := 130) (o := 6) (by decide) (by decide) (fun _ => rfl) (fun h => absurd h (by decide))
    exact this
  | succ k ih =>
    intro d hk hd
    obtain ⟨d', rfl⟩ : ∃ d', d = d' + 1 + 1 := ⟨d - 2, by omega⟩
    have e6 : 6 - (k + 1) + 1 = 6 - k := by omega
    have hg := gd_part (T := T) k
    have hPd := ih d' (by omega) (by omega)
    have hB : 20 * (6 - k) + 10 ≤ 300 := by omega
    have hrow : rdOK T (fun a b μ => RD d' 0 a b (nI (6 - k)) 0 μ) (row T (part T k)) (20 * (6 - (k + 1)) + 10) := by
      obtain ⟨d2, rfl⟩ : ∃ d2, d' = d2 + 1 + 1 := ⟨d' - 2, by omega⟩
      have hPd2 := ih d2 (by omega) (by omega)
      have hcol := colOK (rk := RD d2) (v3 := nI (6 - k)) (C := 20 * (6 - k) + 2) hB (by omega) hPd2 hg
      have hr := rowOK (rk := RD (d2 + 1)) (v3 := nI (6 - k)) (B := 20 * (6 - k) + 10) (C := 20 * (6 - k) + 2) (P := part T k) hB (by omega) (fun μ p L Tp h1 h2 h3 h4 h5 => by rw [rd1]; exact hcol μ p L Tp h1 h2 h3 h4 h5) hg
      intro μ p L Tp h1 h2 h3 h4 h5
      exact hr μ p L Tp h1 h2 h3 (by omega) (by omega)
    have hsub : rdOK T (fun a b μ => RD d' 2 a b (nI (6 - k)) 0 μ) (part T k) (20 * (6 - (k + 1)) + 10) := fun μ p L Tp h1 h2 h3 h4 h5 => hPd μ p L Tp h1 h2 h3 (by omega) (by omega)
    have := partC (T := T) (rk := RD (d' + 1)) (inner := some (part T k)) (B := 20 * (6 - (k + 1)) + 10) (o := 6 - (k + 1)) (by omega) (by omega) (fun h => by omega) (fun _ => ⟨part T k, rfl, by
      rw [e6]
      intro μ p L Tp h1 h2 h3 h4 h5
      simp only
      rw [rd3]
      exact brkC hg hrow μ p L Tp h1 h2 h3 h4 h5, fun v4 dn hv => by
      rw [e6]
      intro μ p L Tp h1 h2 h3 h4 h5
      simp only
      rw [rd4]
      exact chgC (by omega) hg hsub dn (by rcases hv with ⟨a, b⟩ | ⟨a, b⟩ <;> rw [a, b] <;> decide) μ p L Tp h1 h2 h3 h4 h5, fun t ht1 ht9 => by
      rw [e6]
      intro μ s L Tp h1 h2 h3 h4 h5
      rw [rd5]
      exact rptC (by omega) ht1 ht9 hg hsub μ s L Tp h1 h2 h3 h4 h5⟩)
    exact this
