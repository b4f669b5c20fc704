/-! door: the machine reads a part, and the whole text -/
theorem MI_45 {μ : Mem} {T : List Nat} {p j o o' : Nat} (hI : MI μ T p j o) : MI (sI μ 0 45 (nI o')) T p j o' :=
  ⟨tpM_D hI.1 (fD_s (by omega)), by rw [sI_sl (by decide)]; exact hI.2.1, by rw [sI_sl (by decide)]; exact hI.2.2.1, by rw [sI_sl (by decide)]; exact hI.2.2.2.1, sI_same _ _ _ _⟩
theorem er_now {μ r : Mem} {n k p : Nat} {a : Int32} (hn : 1 ≤ n) (hk : k = 1 ∨ k = 2 ∨ k = 3) (f : fD μ r) (h28 : r.1 0 28 = nI k) (h29 : r.1 0 29 = nI p) : erR μ (dr n a 1 r) (k, p) := by
  obtain ⟨n', rfl⟩ : ∃ n', n = n' + 1 := ⟨n - 1, by omega⟩
  have hk0 : ¬ r.1 0 28 = 0 := by
    rw [h28]
    rcases hk with rfl | rfl | rfl <;> decide
  rw [dr_bad hk0]
  exact ⟨_, rfl, f, h28, h29⟩
/-- a piece, or a refusal: nothing is opened -/
theorem pr_leaf {T : List Nat} {k : Nat} {μ : Mem} {p j o n b : Nat} (hI : MI μ T p j o) (hp : p ≤ T.length) (hn : 410 ≤ n + p) (ho : o ≤ 6) (hb : b = bq T (nx T p)) (hd : 48 ≤ b ∧ b ≤ 57) (hx : ¬ (50 ≤ b ∧ bq T (nx T (nx T p + 1)) = 120)) : PR T j o μ (dr n 1 1 μ) (.ok (if 50 ≤ b then nx T (nx T p + 1) else nx T p + 1, 1, 1, fun _ _ => b - 48)) := by
  have hl := hI.1.2.2.1
  have hn1 := nx_ge (T := T) (p := p)
  have hn3 := nx_ge (T := T) (p := nx T p + 1)
  obtain ⟨n', rfl⟩ : ∃ n', n = n' + 1 := ⟨n - 1, by omega⟩
  obtain ⟨r, e, hIr, hpt, fr, lr⟩ := pa_dig hI hp hb hd hx
  refine ⟨n', FU, r, ?_, hIr, ?_, ?_, fr, lr _ _ _, hpt⟩
  · rw [dr_w1 hI.2.1 e, comes_eq]; rfl
  · show 410 ≤ n' + (if 50 ≤ b then nx T (nx T p + 1) else nx T p + 1)
    by_cases h5 : 50 ≤ b
    · rw [if_pos h5]; omega
    · rw [if_neg h5]; omega
  · show 8000 + o ≤ 8192
    omega
theorem pr_open {T : List Nat} {k j o n n2 m2 : Nat} {μ r r' : Mem} {q : Nat × Nat × Nat × Pic} {v : Option Mem} {w h : Nat} {g : Pic} (e : v = cmf (m2 + 1) n2 r) (hIr : MI r T q.1 j (o + 1)) (hn : 410 ≤ n2 + q.1) (hm : 8000 + (o + 1) ≤ m2 + 1) (fr : fD μ r) (lr : loF μ r (j + 1) (j + 1) o) (hpop : f_X10_comes_L0 cmK (m2 + 1) r = f_X10_comes_L0 cmK m2 r') (h0 : ∀ i, i ≠ 32 → i ≠ 45 → r'.1 0 i = r.1 0 i) (h45 : r'.1 0 45 = nI o) (hb : ∀ b, b ≠ 0 → b ≠ 25 → b ≠ 26 → r'.1 b = r.1 b) (hpt : ptM r' w h g) : PR T j o μ v (.ok (q.1, w, h, g)) := by
  have f2 : fD r r' := fD_pl (fun b h1 h2 => hb b (by omega) (by omega) (by omega)) (fun i hi => h0 i (by omega) (by omega))
  have l2 : loF r r' (j + 1) (j + 1) o := loF_pl (fun b h1 h2 => hb b (by omega) (by omega) (by omega)) (h0 29 (by decide) (by decide))
  refine ⟨n2, m2, r', ?_, ⟨tpM_D hIr.1 f2, by rw [h0 28 (by decide) (by decide)]; exact hIr.2.1, by rw [h0 26 (by decide) (by decide)]; exact hIr.2.2.1, by rw [h0 44 (by decide) (by decide)]; exact hIr.2.2.2.1, h45⟩, hn, by omega, fD.tr fr f2, loF.tr lr l2, hpt⟩
  rw [e]; unfold cmf; rw [hpop]
theorem pt_45 {μ : Mem} {w h : Nat} {f : Pic} {v : Int32} (H : ptM μ w h f) : ptM (sI μ 0 45 v) w h f := by
  obtain ⟨a1, a2, a3⟩ := H
  exact ⟨by rw [sI_sl (by decide)]; exact a1, by rw [sI_sl (by decide)]; exact a2, fun c t hc ht => by rw [sI_pl (by decide)]; exact a3 c t hc ht⟩
theorem prX {T : List Nat} {k : Nat} (ih : prOK T k) {μ : Mem} {p j o n b : Nat} (hok : o + (k + 1) = 6) (hj : j ≤ o) (hI : MI μ T p j o) (hp : p ≤ T.length) (hn : 410 ≤ n + p) (hb : b = bq T (nx T p)) (hd : 50 ≤ b ∧ b ≤ 57) (hx : bq T (nx T (nx T p + 1)) = 120) : PR T j o μ (dr n 1 1 μ) (rpt (part T k) (b - 48) (nx T (nx T p + 1))) := by
  have hl := hI.1.2.2.1
  have hn1 := nx_ge (T := T) (p := p)
  have hn2 := nx_le hp
  have hq := bq_lt hb.symm (by omega)
  have hn3 := nx_ge (T := T) (p := nx T p + 1)
  have hn4 := nx_le (T := T) (p := nx T p + 1) (by omega)
  have hq2 := bq_lt hx (by decide)
  obtain ⟨n', rfl⟩ : ∃ n', n = n' + 1 := ⟨n - 1, by omega⟩
  obtain ⟨r, e, fr, -, hyes⟩ := pa_x (show o ≤ 6 by omega) hI hp hb hd hx
  obtain ⟨hIr, r35, r36, r37, lr⟩ := hyes (by omega)
  rw [dr_w0 hI.2.1 e]
  have hR := ih r (nx T (nx T p + 1) + 1) j (o + 1) n' (by omega) (by omega) hIr (by omega) (by omega)
  have hg := gd_part (T := T) k (nx T (nx T p + 1) + 1) (by omega)
  unfold rpt
  cases hr : part T k (nx T (nx T p + 1) + 1) with
  | error e => rw [hr] at hR; exact er_back fr hR
  | ok q =>
    rw [hr] at hR hg
    obtain ⟨n2, m2, s, es, hIs, hn5, hm2, fs, ls, hpt⟩ := hR
    obtain ⟨g1, g2, g3, g4, g5, g6, g7⟩ := hg
    obtain ⟨m3, rfl⟩ : ∃ m3, m2 = m3 + 1 := ⟨m2 - 1, by omega⟩
    have s35 : s.1 35 o = 120 := by rw [ls.2.2.2.2.1 35 (by omega) o (by omega)]; exact r35
    have s36 : s.1 36 o = nI (b - 48) := by rw [ls.2.2.2.2.1 36 (by omega) o (by omega)]; exact r36
    have s37 : s.1 37 o = nI (nx T (nx T p + 1)) := by rw [ls.2.2.2.2.1 37 (by omega) o (by omega)]; exact r37
    have hpop := cl_pop (m := m3) (show o < 6 by omega) hIs.2.1 hIs.2.2.2.2 s35 (by decide)
    rw [if_pos rfl, s36, s37] at hpop
    have h2 := repeatsM (t := b - 48) (v2 := nI (nx T (nx T p + 1))) g3 (by omega) (by omega) g4 g6 (pt_45 (v := nI o) hpt) (show (sI s 0 45 (nI o)).1 0 28 = 0 by rw [sI_sl (by decide)]; exact hIs.2.1)
    have lrs : loF μ s (j + 1) (j + 1) o := loF.tr (lr _ _) (ls.mono (Nat.le_refl _) (Nat.le_refl _) (by omega))
    simp only
    by_cases h8 : q.2.1 * (b - 48) ≤ 8
    · rw [if_pos h8] at h2 ⊢
      obtain ⟨u, eu, hpu, hub, hu0⟩ := h2
      rw [eu, bi_some] at hpop
      exact pr_open (k := k) (n := n') es hIs hn5 (by omega) (fD.tr fr fs) lrs hpop (fun i h1 h2 => by rw [hu0 i h1, sI_sl h2]) (by rw [hu0 45 (by decide), sI_same]) (fun b h1 h2 _ => by rw [hub b h2 h1, sI_pl h1]) hpu
    · rw [if_neg h8] at h2 ⊢
      rw [h2, bi_some] at hpop
      obtain ⟨m4, rfl⟩ : ∃ m4, m3 = m4 + 1 := ⟨m3 - 1, by omega⟩
      rw [cl_bad (fbad (by decide))] at hpop
      rw [es]
      unfold cmf
      rw [hpop, bi_some]
      exact er_bad (k := 3) (by omega) (by omega) (fD.tr (fD.tr fr fs) (fD_s (by omega)))
theorem prT {T : List Nat} {k : Nat} (ih : prOK T k) {μ : Mem} {p j o n b : Nat} (hok : o + (k + 1) = 6) (hj : j ≤ o) (hI : MI μ T p j o) (hp : p ≤ T.length) (hn : 410 ≤ n + p) (hb : b = bq T (nx T p)) (hd : b = 33 ∨ b = 126) : PR T j o μ (dr n 1 1 μ) (chg (part T k) (decide (b = 126)) (nx T p + 1)) := by
  have hl := hI.1.2.2.1
  have hn1 := nx_ge (T := T) (p := p)
  have hn2 := nx_le hp
  have hq := bq_lt hb.symm (by omega)
  obtain ⟨n', rfl⟩ : ∃ n', n = n' + 1 := ⟨n - 1, by omega⟩
  obtain ⟨r, e, fr, -, hyes⟩ := pa_t (show o ≤ 6 by omega) hI hp hb hd
  obtain ⟨hIr, r35, lr⟩ := hyes (by omega)
  rw [dr_w0 hI.2.1 e]
  have hR := ih r (nx T p + 1) j (o + 1) n' (by omega) (by omega) hIr (by omega) (by omega)
  have hg := gd_part (T := T) k (nx T p + 1) (by omega)
  unfold chg
  cases hr : part T k (nx T p + 1) with
  | error e => rw [hr] at hR; exact er_back fr hR
  | ok q =>
    rw [hr] at hR hg
    obtain ⟨n2, m2, s, es, hIs, hn5, hm2, fs, ls, hpt⟩ := hR
    obtain ⟨g1, g2, g3, g4, g5, g6, g7⟩ := hg
    obtain ⟨m3, rfl⟩ : ∃ m3, m2 = m3 + 1 := ⟨m2 - 1, by omega⟩
    have s35 : s.1 35 o = nI b := by rw [ls.2.2.2.2.1 35 (by omega) o (by omega)]; exact r35
    have hpop := cl_pop (m := m3) (show o < 6 by omega) hIs.2.1 hIs.2.2.2.2 s35 (ne_b (c := 40) (by omega) (by decide) (by omega))
    have n120 : ¬ nI b = (120 : Int32) := ne_b (c := 120) (by omega) (by decide) (by omega)
    rw [if_neg n120] at hpop
    have lrs : loF μ s (j + 1) (j + 1) o := loF.tr (lr _ _) (ls.mono (Nat.le_refl _) (Nat.le_refl _) (by omega))
    obtain ⟨t1, t2, t3⟩ := pt_45 (v := nI o) hpt
    simp only
    rcases hd with h | h
    · rw [decide_eq_false (by omega)]
      obtain ⟨u, eu, hub, huc⟩ := turns_eq (v1 := 1) (v2 := 0) g4 g6 t1 t2
      rw [h, if_neg (by decide), eu, bi_some] at hpop
      refine pr_open (k := k) (n := n') es hIs hn5 (by omega) (fD.tr fr fs) lrs hpop (fun i _ h2 => by rw [hub 0 (by decide) (by decide), sI_sl h2]) (by rw [hub 0 (by decide) (by decide), sI_same]) (fun b h1 h2 h3 => by rw [hub b h2 h3, sI_pl h1]) ⟨by rw [hub 0 (by decide) (by decide)]; exact t1, by rw [hub 0 (by decide) (by decide)]; exact t2, fun c y hc hy => ?_⟩
      have hk := g7 (q.2.1 - 1 - c) y (by omega) hy
      have m1 : mir 1 q.2.1 c = q.2.1 - 1 - c := if_neg one0
      have m0 : mir 0 q.2.2.1 y = y := if_pos rfl
      rw [huc c y hc hy, m1, m0, if_neg one0, if_pos rfl, t3 (q.2.1 - 1 - c) y (by omega) hy, x16I _ hk.1, Int32.xor_zero]
      rfl
    · rw [decide_eq_true h]
      obtain ⟨u, eu, hub, huc⟩ := turns_eq (v1 := 1) (v2 := 1) g4 g6 t1 t2
      rw [h, if_pos (by decide), eu, bi_some] at hpop
      refine pr_open (k := k) (n := n') es hIs hn5 (by omega) (fD.tr fr fs) lrs hpop (fun i _ h2 => by rw [hub 0 (by decide) (by decide), sI_sl h2]) (by rw [hub 0 (by decide) (by decide), sI_same]) (fun b h1 h2 h3 => by rw [hub b h2 h3, sI_pl h1]) ⟨by rw [hub 0 (by decide) (by decide)]; exact t1, by rw [hub 0 (by decide) (by decide)]; exact t2, fun c y hc hy => ?_⟩
      have hk := g7 (q.2.1 - 1 - c) (q.2.2.1 - 1 - y) (by omega) (by omega)
      have m1 : mir 1 q.2.1 c = q.2.1 - 1 - c := if_neg one0
      have m0 : mir 1 q.2.2.1 y = q.2.2.1 - 1 - y := if_neg one0
      rw [huc c y hc hy, m1, m0, if_neg one0, if_neg one0, t3 (q.2.1 - 1 - c) (q.2.2.1 - 1 - y) (by omega) (by omega), x16I _ hk.1, x32I _ (x16 _ hk.1).1]
      rfl
theorem prB {T : List Nat} {k : Nat} (ih : prOK T k) {μ : Mem} {p j o n b : Nat} (hok : o + (k + 1) = 6) (hj : j ≤ o) (hI : MI μ T p j o) (hp : p ≤ T.length) (hn : 410 ≤ n + p) (hb : b = bq T (nx T p)) (hd : b = 40) : PR T j o μ (dr n 1 1 μ) (brk T (part T k) (nx T p + 1)) := by
  have hl := hI.1.2.2.1
  have hbr := hI.1.2.2.2
  have hn1 := nx_ge (T := T) (p := p)
  have hn2 := nx_le hp
  have hq := bq_lt hb.symm (by omega)
  obtain ⟨n', rfl⟩ : ∃ n', n = n' + 1 := ⟨n - 1, by omega⟩
  obtain ⟨r, e, fr, -, hyes⟩ := pa_b (show o ≤ 6 by omega) hj hI hp hb hd
  obtain ⟨hIr, r35, r27, r30, lr⟩ := hyes (by omega)
  rw [dr_w0 hI.2.1 e]
  have hR := rowFm ih (o := o + 1) (j := j + 1) (n := n') (by omega) (by omega) hIr (by omega) (Or.inr r35) (by omega) r27 r30
  have hg := gd_row (gd_part (T := T) k) (nx T p + 1) (by omega)
  unfold brk
  cases hr : row T (part T k) (nx T p + 1) with
  | error e => rw [hr] at hR; exact er_back fr hR
  | ok q =>
    rw [hr] at hR hg
    obtain ⟨n2, p2, s, es, hIs, hp2, hnx, h47, h124, hn5, fs, ls, hY⟩ := hR
    obtain ⟨g1, g2, g3, g4, g5, g6, g7⟩ := hg
    have hnn : nx T q.1 = q.1 := by rw [← hnx, nx_nx]
    have hp3 := nx_ge (T := T) (p := p2)
    rw [hnx] at hp3
    simp only
    rw [hnn]
    obtain ⟨r3, e3, k3, f3⟩ := nextM hIs.1 hIs.2.2.1 hp2
    rw [hnx] at e3 k3
    obtain ⟨t, et, hrow, -, hfen⟩ := hY r3 f3
    have z0 := hfen.1 0 (by decide) (by decide) (by decide) (by decide)
    have t28 : t.1 0 28 = 0 := by rw [z0, f3.2 28 (by decide)]; exact hIs.2.1
    have t44 : t.1 0 44 = nI (j + 1) := by rw [z0, f3.2 44 (by decide)]; exact hIs.2.2.2.1
    have t45 : t.1 0 45 = nI (o + 1) := by rw [z0, f3.2 45 (by decide)]; exact hIs.2.2.2.2
    have t26 : t.1 0 26 = nI q.1 := by rw [z0]; exact k3
    have fst : fD s t := fD.tr (fD_O f3 (by omega)) (fen_fD hfen)
    have lst : loF s t (j + 1) (j + 1) o := loF.tr (loF_O f3) (fen_lo hfen)
    have fμt := fD.tr fr (fD.tr fs fst)
    have lμt : loF μ t (j + 1) (j + 1) o := loF.tr lr (loF.tr (ls.mono (Nat.le_refl _) (Nat.le_refl _) (by omega)) lst)
    by_cases h41 : bq T q.1 = 41
    · rw [if_pos h41]
      have hq1 := bq_lt h41 (by decide)
      obtain ⟨n3, rfl⟩ : ∃ n3, n2 = n3 + 1 := ⟨n2 - 1, by omega⟩
      have d0 : ¬ t.1 0 44 = 0 := by rw [t44]; exact ne_b (c := 0) (by omega) (by decide) (by omega)
      rw [es, dr_41 hIs.2.1 e3 ((byv_eq (c := 41) hbr (by decide)).mpr h41) et t28 d0, t26, nI_s]
      have hrow2 : rowM (sI t 0 26 (nI (q.1 + 1))) (j + 1) q.2.1 q.2.2.1 q.2.2.2 := rowM_O (frO_s (j := 26)) hrow
      obtain ⟨u, eu, hpu, hub, hu0⟩ := ripM (show j + 1 < 8 by omega) g4 g6 (show (sI t 0 26 (nI (q.1 + 1))).1 0 44 = nI (j + 1) by rw [sI_sl (by decide)]; exact t44) hrow2
      have u44 : u.1 0 44 = nI (j + 1) := by rw [hu0 44 (by decide) (by decide), sI_sl (by decide)]; exact t44
      have u45 : u.1 0 45 = nI (o + 1) := by rw [hu0 45 (by decide) (by decide), sI_sl (by decide)]; exact t45
      have m1 : ∀ a : Nat, nI (a + 1) - 1 = nI a := fun a => by rw [iz_nat, show (1 : Int32) = iz 1 by decide, iz_sub, iz_nat]; exact congrArg iz (by omega)
      rw [eu, bi_some, u44, m1, sI_sl (show (45 : Nat) ≠ 44 by decide), u45, m1, comes_eq]
      have fu : fD t u := fD_pl (fun b h1 h2 => by rw [hub b (by omega) (by omega), sI_pl (by omega)]) (fun i hi => by rw [hu0 i (by omega) (by omega), sI_sl (by omega)])
      have lu : loF t u (j + 1) (j + 1) o := loF_pl (fun b h1 h2 => by rw [hub b (by omega) (by omega), sI_pl (by omega)]) (by rw [hu0 29 (by decide) (by decide), sI_sl (by decide)])
      have fv : fD u (sI (sI u 0 44 (nI j)) 0 45 (nI o)) := fD.tr (fD_s (by omega)) (fD_s (by omega))
      have fμv := fD.tr fμt (fD.tr fu fv)
      refine ⟨n3, FU, _, rfl, ⟨tpM_D hI.1 fμv, ?_, ?_, ?_, sI_same _ _ _ _⟩, by simp only; omega, by show 8000 + o ≤ 8192; omega, fμv, loF.tr lμt (loF.tr lu (loF.tr loF_s loF_s)), ?_⟩
      · rw [sI_sl (by decide), sI_sl (by decide), hu0 28 (by decide) (by decide), sI_sl (by decide)]; exact t28
      · rw [sI_sl (by decide), sI_sl (by decide), hu0 26 (by decide) (by decide), sI_same]
      · rw [sI_sl (by decide), sI_same]
      · obtain ⟨b1, b2, b3⟩ := hpu
        exact ⟨by rw [sI_sl (by decide), sI_sl (by decide)]; exact b1, by rw [sI_sl (by decide), sI_sl (by decide)]; exact b2, fun c y hc hy => by rw [sI_pl (by decide), sI_pl (by decide)]; exact b3 c y hc hy⟩
    · rw [if_neg h41]
      obtain ⟨n3, rfl⟩ : ∃ n3, n2 = n3 + 1 + 1 := ⟨n2 - 2, by omega⟩
      have d0 : ¬ t.1 0 44 ≤ 0 := by rw [t44, iz0, iz_nat, iz_le (by omega) (by omega) (by omega) (by omega)]; omega
      rw [es, dr_oth hIs.2.1 e3 (fun z => h47 ((byv_eq (c := 47) hbr (by decide)).mp z)) (fun z => h124 ((byv_eq (c := 124) hbr (by decide)).mp z)) (fun z => h41 ((byv_eq (c := 41) hbr (by decide)).mp z)) et t28 (fun _ => d0), t26]
      exact ⟨_, rfl, fD.tr fμt fD_bad, bad_at.1, bad_at.2⟩
theorem pr_all {T : List Nat} : ∀ k, prOK T k := by
  intro k
  induction k with
  | zero =>
    intro μ p j o n hok hj hI hp hn
    have hl := hI.1.2.2.1
    have hn1 := nx_ge (T := T) (p := p)
    have hn2 := nx_le hp
    obtain ⟨b, hb⟩ : ∃ b, b = bq T (nx T p) := ⟨_, rfl⟩
    show PR T j o μ (dr n 1 1 μ) (bodyP T none p)
    rw [body_no, ← hb]
    have now : ∀ r, f_X10_parts μ = some (0, r) → fD μ r → r.1 0 28 = 1 → r.1 0 29 = nI (nx T p) → PR T j o μ (dr n 1 1 μ) (.error (1, nx T p)) := by
      intro r e f h1 h2
      obtain ⟨n', rfl⟩ : ∃ n', n = n' + 1 := ⟨n - 1, by omega⟩
      rw [dr_w0 hI.2.1 e]
      exact er_now (k := 1) (by omega) (by omega) f h1 h2
    by_cases hd : 48 ≤ b ∧ b ≤ 57
    · rw [if_pos hd]
      by_cases hx : 50 ≤ b ∧ bq T (nx T (nx T p + 1)) = 120
      · rw [if_pos hx]
        obtain ⟨r, e, fr, hno, -⟩ := pa_x (show o ≤ 6 by omega) hI hp hb ⟨hx.1, hd.2⟩ hx.2
        exact now r e fr (hno (by omega)).1 (hno (by omega)).2
      · rw [if_neg hx]
        exact pr_leaf (k := 0) hI hp hn (by omega) hb hd hx
    · rw [if_neg hd]
      by_cases h40 : b = 40
      · rw [if_pos h40]
        obtain ⟨r, e, fr, hno, -⟩ := pa_b (show o ≤ 6 by omega) hj hI hp hb h40
        exact now r e fr (hno (by omega)).1 (hno (by omega)).2
      · rw [if_neg h40]
        by_cases ht : b = 33 ∨ b = 126
        · rw [if_pos ht]
          obtain ⟨r, e, fr, hno, -⟩ := pa_t (show o ≤ 6 by omega) hI hp hb ht
          exact now r e fr (hno (by omega)).1 (hno (by omega)).2
        · rw [if_neg ht]
          obtain ⟨r, e, fr, h1, h2⟩ := pa_f hI hp hb hd h40 (by omega) (by omega)
          exact now r e fr h1 h2
  | succ k ih =>
    intro μ p j o n hok hj hI hp hn
    have hl := hI.1.2.2.1
    have hn1 := nx_ge (T := T) (p := p)
    have hn2 := nx_le hp
    obtain ⟨b, hb⟩ : ∃ b, b = bq T (nx T p) := ⟨_, rfl⟩
    show PR T j o μ (dr n 1 1 μ) (bodyP T (some (part T k)) p)
    rw [body_in, ← hb]
    by_cases hd : 48 ≤ b ∧ b ≤ 57
    · rw [if_pos hd]
      by_cases hx : 50 ≤ b ∧ bq T (nx T (nx T p + 1)) = 120
      · rw [if_pos hx]
        exact prX ih hok hj hI hp hn hb ⟨hx.1, hd.2⟩ hx.2
      · rw [if_neg hx]
        exact pr_leaf (k := k + 1) hI hp hn (by omega) hb hd hx
    · rw [if_neg hd]
      by_cases h40 : b = 40
      · rw [if_pos h40]
        exact prB ih hok hj hI hp hn hb h40
      · rw [if_neg h40]
        by_cases ht : b = 33 ∨ b = 126
        · rw [if_pos ht]
          exact prT ih hok hj hI hp hn hb ht
        · rw [if_neg ht]
          obtain ⟨r, e, fr, h1, h2⟩ := pa_f hI hp hb hd h40 (by omega) (by omega)
          obtain ⟨n', rfl⟩ : ∃ n', n = n' + 1 := ⟨n - 1, by omega⟩
          rw [dr_w0 hI.2.1 e]
          exact er_now (k := 1) (by omega) (by omega) fr h1 h2
theorem drawsM {T : List Nat} {μ : Mem} (ht : tpM μ T) (h28 : μ.1 0 28 = 0) (h29 : μ.1 0 29 = -1) (h26 : μ.1 0 26 = 0) : ∃ r, f_X10_draws μ = some r ∧ fD μ r ∧ match tapeR T with
    | .error e => r.1 0 28 = nI e.1 ∧ r.1 0 29 = nI e.2
    | .ok q => r.1 0 28 = 0 ∧ r.1 0 29 = -1 ∧ ptM r q.2.1 q.2.2.1 q.2.2.2 := by
  have hbr := ht.2.2.2
  have hl := ht.2.2.1
  unfold f_X10_draws
  rw [beginsM (j := 0) (by decide) (by rw [sI_sl (by decide), sI_same]; rfl), bi_some]
  obtain ⟨N, hN⟩ : ∃ N, N = sI (sI (sI (sI (sI (sI μ 0 44 0) 0 45 0) 27 0 0) 30 0 0) 33 0 (-1)) 34 0 (-1) := ⟨_, rfl⟩
  rw [← hN]
  have n0 : ∀ i, i ≠ 44 → i ≠ 45 → N.1 0 i = μ.1 0 i := fun i h1 h2 => by rw [hN, sI_pl (by decide), sI_pl (by decide), sI_pl (by decide), sI_pl (by decide), sI_sl h2, sI_sl h1]
  have fN : fD μ N := by rw [hN]; exact fD.tr (fD_s (by omega)) (fD.tr (fD_s (by omega)) (fD.tr (fD_a (by decide) (by decide)) (fD.tr (fD_a (by decide) (by decide)) (fD.tr (fD_a (by decide) (by decide)) (fD_a (by decide) (by decide))))))
  have hIN : MI N T 0 0 0 := by
    refine ⟨tpM_D ht fN, by rw [n0 28 (by decide) (by decide)]; exact h28, by rw [n0 26 (by decide) (by decide)]; exact h26, ?_, ?_⟩
    · rw [hN, sI_pl (by decide), sI_pl (by decide), sI_pl (by decide), sI_pl (by decide), sI_sl (by decide), sI_same]; rfl
    · rw [hN, sI_pl (by decide), sI_pl (by decide), sI_pl (by decide), sI_pl (by decide), sI_same]; rfl
  have hR := rowFm (pr_all (T := T) 6) (o := 0) (j := 0) (n := FU) rfl (Nat.le_refl 0) hIN (Nat.zero_le _) (Or.inl rfl) (by decide) (by rw [hN, sI_pl (by decide), sI_pl (by decide), sI_pl (by decide), sI_same]) (by rw [hN, sI_pl (by decide), sI_pl (by decide), sI_same])
  have hg := gd_row (gd_part (T := T) 6) 0 (Nat.zero_le _)
  show ∃ r, dr FU 1 1 N = some r ∧ _
  unfold tapeR
  cases hr : row T (part T 6) 0 with
  | error e =>
    rw [hr] at hR
    obtain ⟨r, e1, f, h1, h2⟩ := hR
    exact ⟨r, e1, fD.tr fN f, h1, h2⟩
  | ok q =>
    rw [hr] at hR hg
    obtain ⟨n2, p2, s, es, hIs, hp2, hnx, h47, h124, hn5, fs, ls, hY⟩ := hR
    obtain ⟨g1, g2, g3, g4, g5, g6, g7⟩ := hg
    have hnn : nx T q.1 = q.1 := by rw [← hnx, nx_nx]
    simp only
    rw [hnn]
    obtain ⟨r3, e3, k3, f3⟩ := nextM hIs.1 hIs.2.2.1 hp2
    rw [hnx] at e3 k3
    obtain ⟨t, et, hrow, -, hfen⟩ := hY r3 f3
    have z0 := hfen.1 0 (by decide) (by decide) (by decide) (by decide)
    have t28 : t.1 0 28 = 0 := by rw [z0, f3.2 28 (by decide)]; exact hIs.2.1
    have t44 : t.1 0 44 = 0 := by rw [z0, f3.2 44 (by decide)]; exact hIs.2.2.2.1
    have t26 : t.1 0 26 = nI q.1 := by rw [z0]; exact k3
    have fst : fD s t := fD.tr (fD_O f3 (by omega)) (fen_fD hfen)
    have fμt := fD.tr fN (fD.tr fs fst)
    obtain ⟨n3, rfl⟩ : ∃ n3, n2 = n3 + 1 + 1 := ⟨n2 - 2, by omega⟩
    by_cases h : bq T q.1 = 256
    · rw [if_pos h]
      obtain ⟨u, eu, hpu, hub, hu0⟩ := ripM (j := 0) (by decide) g4 g6 (show t.1 0 44 = nI 0 from t44) hrow
      rw [es, dr_fin hIs.2.1 e3 ((byv_none hbr).mpr h) et t28 t44, eu, bi_some, dr_end]
      have fu : fD t u := fD_pl (fun b h1 h2 => hub b (by omega) (by omega)) (fun i hi => hu0 i (by omega) (by omega))
      refine ⟨u, rfl, fD.tr fμt fu, ?_, ?_, hpu⟩
      · rw [hu0 28 (by decide) (by decide)]; exact t28
      · rw [hu0 29 (by decide) (by decide), z0, f3.2 29 (by decide), ls.2.2.2.2.2, n0 29 (by decide) (by decide)]; exact h29
    · rw [if_neg h]
      have hb : erR μ (dr (n3 + 1 + 1) 0 1 s) (1, q.1) := by
        by_cases h41 : bq T q.1 = 41
        · rw [dr_410 hIs.2.1 e3 ((byv_eq (c := 41) hbr (by decide)).mpr h41) et t28 t44, t26]
          exact ⟨_, rfl, fD.tr fμt fD_bad, bad_at.1, bad_at.2⟩
        · rw [dr_oth hIs.2.1 e3 (fun z => h47 ((byv_eq (c := 47) hbr (by decide)).mp z)) (fun z => h124 ((byv_eq (c := 124) hbr (by decide)).mp z)) (fun z => h41 ((byv_eq (c := 41) hbr (by decide)).mp z)) et t28 (fun z => absurd ((byv_none hbr).mp z) h), t26]
          exact ⟨_, rfl, fD.tr fμt fD_bad, bad_at.1, bad_at.2⟩
      obtain ⟨r, h1, h2, h3, h4⟩ := hb
      exact ⟨r, by rw [es]; exact h1, h2, h3, h4⟩
