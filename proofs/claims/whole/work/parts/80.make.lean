/-! a door is made, or taken back (class) -/
theorem Cg_of2 {μ μ' : Mem} {a : Nat} {g : LogD} (hl : (gF g).length ≤ 10) (h0 : μ'.1 a = μ.1 a) (h : ∀ b, a + 5 ≤ b → b < a + 15 → μ'.1 b = μ.1 b) (h2 : μ'.2 (a + 3) = μ.2 (a + 3)) (H : Cg μ a g) : Cg μ' a g := by
  obtain ⟨q0, h1, h3, h4, h5, h6, h7, h8, h9, h10⟩ := H
  refine ⟨by rw [h0]; exact q0, by rw [h0]; exact h1, by rw [h0]; exact h3, by rw [h0]; exact h4, by rw [h0]; exact h5, by rw [h0]; exact h6, by rw [h0]; exact h7, by rw [h0]; exact h8, fun k f hk => ?_, fun i y x hi hy hx => by rw [h2]; exact h10 i y x hi hy hx⟩
  have hk2 : k < (gF g).length := (List.getElem?_eq_some_iff.mp hk).1
  exact Cf_of (h _ (by omega) (by omega)) (h9 k f hk)
/-- what a making or a taking back may change: the finder's slots, the log's counts and rows of cuts, the door -/
def frm (μ r : Mem) (l d : Nat) : Prop := (∀ p, p ≠ 9 → p ≠ 11 + 15 * l + 1 → p ≠ 56 + 4 * d → r.1 p = μ.1 p) ∧ ∀ p, p ≠ 11 + 15 * l + 4 → r.2 p = μ.2 p
theorem pw_ne {S : List Strip} (h : S.Pairwise disS) {s t : Strip} (hs : s ∈ S) (ht : t ∈ S) (hne : s ≠ t) : disS s t := by
  induction h with
  | nil => cases hs
  | cons h1 _ ih =>
    rcases List.mem_cons.mp hs with rfl | hs'
    · rcases List.mem_cons.mp ht with rfl | ht'
      · exact absurd rfl hne
      · exact h1 t ht'
    · rcases List.mem_cons.mp ht with rfl | ht'
      · intro l i x y q; exact h1 s hs' l i x y ⟨q.2, q.1⟩
      · exact ih hs' ht'
theorem CD_upd2 {μ r : Mem} {d : Nat} {A B : Nat → Option DoorD} (H : CD μ A) (hAB : ∀ k, k ≠ d → B k = A k) (hr : ∀ b, 56 ≤ b → b < 56 + 4 * d ∨ 60 + 4 * d ≤ b → r.1 b = μ.1 b) (hd : match B d with
  | none => r.1 (56 + 4 * d) 2 = 0 ∧ r.1 (56 + 4 * d) 8 = -1
  | some D => Cd r (56 + 4 * d) D) : CD r B := by
  intro k hk
  by_cases hkd : k = d
  · subst hkd; exact hd
  · rw [hAB k hkd]
    have H1 := H k hk
    cases hA : A k with
    | none => rw [hA] at H1; show r.1 (56 + 4 * k) 2 = 0 ∧ r.1 (56 + 4 * k) 8 = -1; rw [hr _ (by omega) (by omega)]; exact H1
    | some D => rw [hA] at H1; exact Cd_of (fun b h1 h2 => hr b (by omega) (by omega)) H1
theorem RC_door {σ : St} {n : Nat} {μ r : Mem} {l d : Nat} {D' : DoorD} {S : List Strip} (hw : WF n σ) (hc : RC σ μ) (hl : l < 3) (hf : frm μ r l d) (hd : d < 8) (hD : Cd r (56 + 4 * d) D') (hS : CS r (σL σ) S) : RC (stM σ d D' S) r := by
  obtain ⟨c1, c2, c3, c4, c5, c6⟩ := hc
  obtain ⟨f1, f2⟩ := hf
  refine ⟨fun k hk => ?_, CD_upd2 (d := d) c2 (fun k hk => if_neg hk) (fun b h1 hb => f1 b (by omega) (by omega) (by omega)) ?_, hS, ?_, ?_, ?_⟩
  · show match σL σ k with
      | none => r.1 (11 + 15 * k) 0 = 0
      | some g => Cg r (11 + 15 * k) g
    have H := c1 k hk
    cases hL : σL σ k with
    | none => rw [hL] at H; show r.1 (11 + 15 * k) 0 = 0; rw [f1 _ (by omega) (by omega) (by omega)]; exact H
    | some g =>
      rw [hL] at H
      exact Cg_of2 (WFg_fl (hw.1 k g hL).2) (f1 _ (by omega) (by omega) (by omega)) (fun b h1 h2 => f1 b (by omega) (by omega) (by omega)) (f2 _ (by omega)) H
  · show match (if d = d then some D' else σD σ d) with
      | none => r.1 (56 + 4 * d) 2 = 0 ∧ r.1 (56 + 4 * d) 8 = -1
      | some D => Cd r (56 + 4 * d) D
    rw [if_pos rfl]; exact hD
  · exact CT2_of (by rw [f1 1 (by omega) (by omega) (by omega)]) (f1 2 (by omega) (by omega) (by omega)) c4
  · exact CF_of (by rw [f1 3 (by omega) (by omega) (by omega)]) (by rw [f1 3 (by omega) (by omega) (by omega)]) c5
  · exact CP_of (f1 89 (by omega) (by omega) (by omega)) c6
def cdM (r : Mem) (a : Nat) (q : Option (Nat × Nat × Nat × Nat)) : Prop := match q with
  | none => r.1 a 8 = -1 ∧ r.1 a 9 = -1 ∧ r.1 a 10 = -1 ∧ r.1 a 11 = -1
  | some q => r.1 a 8 = nI q.1 ∧ r.1 a 9 = nI q.2.1 ∧ r.1 a 10 = nI q.2.2.1 ∧ r.1 a 11 = nI q.2.2.2
theorem Cd_set {μ r : Mem} {d : Nat} {D : DoorD} {q : Option (Nat × Nat × Nat × Nat)} (hd : d < 8) (cd : Cd μ (56 + 4 * d) D) (h1 : ∀ j, j < 8 → r.1 (56 + 4 * d) j = μ.1 (56 + 4 * d) j) (h2 : ∀ b, 56 + 4 * d < b → b < 60 + 4 * d → r.1 b = μ.1 b) (h3 : cdM r (56 + 4 * d) q) : Cd r (56 + 4 * d) (setM D q) := by
  obtain ⟨p1, p2, p3, p4, p5, p6, p7, p8, p9, p10, p11⟩ := cd
  refine ⟨by rw [h1 2 (by omega)]; exact p1, by rw [h2 _ (by omega) (by omega)]; exact p2, by rw [h2 _ (by omega) (by omega)]; exact p3, fun c r hc hr => by rw [h2 _ (by omega) (by omega)]; exact p4 c r hc hr, by rw [h1 3 (by omega)]; exact p5, by rw [h1 4 (by omega)]; exact p6, by rw [h1 5 (by omega)]; exact p7, fun o ho => by rw [h2 _ (by omega) (by omega)]; exact p8 o ho, ?_, ?_, h3⟩
  · obtain ⟨o, o1, o2, o3⟩ := p9; exact ⟨o, o1, o2, by rw [h1 6 (by omega)]; exact o3⟩
  · obtain ⟨o, o1, o2, o3⟩ := p10; exact ⟨o, o1, o2, by rw [h1 7 (by omega)]; exact o3⟩
theorem makeC {n : Nat} {σ : St} {μ : Mem} {l d F Y X : Nat} {g : LogD} {D : DoorD} (hw : WF n σ) (hc : RC σ μ) (hl : l < 3) (hL : σL σ l = some g) (hd : d < 8) (hD : σD σ d = some D) (hM : dM D = none) (hfit : FIT (σS σ) l g D F Y X) : ∃ r, (f_X0_madeAt (56 + 4 * d) (nI l) (found μ F Y X)).bind (fun μ8 => (f_X4_addCuts (11 + 15 * l) (56 + 4 * d) μ8).bind (fun μ9 => (some ((1 : Int32), μ9)))) = some (1, r) ∧ RC (mkSt σ d D l F Y X) r ∧ frm μ r l d := by
  have wd := (hw.2.1 d D hD).2
  have hg := (hw.1 l g hL).2
  have hN := hg.2.1
  have hwm := WF_mk hw hl hL hd hD hM hfit
  have cg : Cg μ (11 + 15 * l) g := by have := hc.1 l hl; rw [hL] at this; exact this
  have cd : Cd μ (56 + 4 * d) D := by have := hc.2.1 d hd; rw [hD] at this; exact this
  obtain ⟨a0, ha0, hla⟩ := least_ex wd
  have hF : F ≤ 12 := by have := (hfit a0 ha0 hla.1).1; omega
  obtain ⟨f0, f1, f2⟩ := found_at (μ := μ) (f := F) (y := Y) (x := X)
  obtain ⟨N, hN2⟩ : ∃ N, N = found μ F Y X := ⟨_, rfl⟩
  rw [← hN2] at f0 f1 f2 ⊢
  have n1 : ∀ p, p ≠ 9 → N.1 p = μ.1 p := fun p hp => by rw [hN2]; unfold found; rw [sI_pl hp, sI_pl hp, sI_pl hp]
  have n2 : N.2 = μ.2 := by rw [hN2]; rfl
  obtain ⟨M, hMe⟩ : ∃ M, M = sI (sI (sI (sI N (56 + 4 * d) 8 (nI l)) (56 + 4 * d) 9 (nI F)) (56 + 4 * d) 10 (nI Y)) (56 + 4 * d) 11 (nI X) := ⟨_, rfl⟩
  have eM : f_X0_madeAt (56 + 4 * d) (nI l) N = some M := by
    unfold f_X0_madeAt
    rw [sI_pl (show 9 ≠ 56 + 4 * d by omega), f0, sI_pl (show 9 ≠ 56 + 4 * d by omega), sI_pl (show 9 ≠ 56 + 4 * d by omega), f1, sI_pl (show 9 ≠ 56 + 4 * d by omega), sI_pl (show 9 ≠ 56 + 4 * d by omega), sI_pl (show 9 ≠ 56 + 4 * d by omega), f2, hMe]
  have m1 : ∀ p, p ≠ 9 → p ≠ 56 + 4 * d → M.1 p = μ.1 p := fun p h9 hp => by rw [hMe, sI_pl hp, sI_pl hp, sI_pl hp, sI_pl hp, n1 p h9]
  have m2 : M.2 = μ.2 := by rw [hMe]; exact n2
  have m3 : ∀ j, j < 8 → M.1 (56 + 4 * d) j = μ.1 (56 + 4 * d) j := fun j hj => by rw [hMe, sI_sl (by omega), sI_sl (by omega), sI_sl (by omega), sI_sl (by omega), n1 _ (by omega)]
  have m8 : M.1 (56 + 4 * d) 8 = nI l := by rw [hMe]; simp [sI_at]
  have m9 : M.1 (56 + 4 * d) 9 = nI F := by rw [hMe]; simp [sI_at]
  have m10 : M.1 (56 + 4 * d) 10 = nI Y := by rw [hMe]; simp [sI_at]
  have m11 : M.1 (56 + 4 * d) 11 = nI X := by rw [hMe]; simp [sI_at]
  have hch : chd M (11 + 15 * l) (56 + 4 * d) g D F Y X := ⟨by rw [m1 _ (by omega) (by omega)]; exact cg.2.1, by rw [m1 _ (by omega) (by omega)]; exact cg.2.2.1, fun o ho => by rw [m1 _ (by omega) (by omega)]; exact cd.2.2.2.2.2.2.2.1 o ho, by rw [m3 3 (by omega)]; exact cd.2.2.2.2.1, by rw [m3 4 (by omega)]; exact cd.2.2.2.2.2.1, m9, m10, m11⟩
  obtain ⟨r, e, r1, r2, r3⟩ := changeC (v2 := 1) hg wd (show 11 + 15 * l + 1 < 56 + 4 * d by omega) (fun o ho hq => ⟨(hfit o ho hq).1, (hfit o ho hq).2.1, (hfit o ho hq).2.2.1⟩) hF hch
  have hfr : frm μ r l d := ⟨fun p h1 h2 h3 => by rw [r1 p h2, m1 p h1 h3], fun p hp => by rw [r3.1 p hp, m2]⟩
  refine ⟨r, ?_, ?_, hfr⟩
  · rw [eM, bi_some]
    unfold f_X4_addCuts
    rw [e, bi_some, bi_some]
  · refine RC_door hw hc hl hfr hd ?_ (fun k g' hk hL' => ?_)
    · refine Cd_set hd cd (fun j hj => by rw [r1 _ (by omega), m3 j hj]) (fun b h1 h2 => by rw [r1 _ (by omega), m1 b (by omega) (by omega)]) ?_
      show r.1 (56 + 4 * d) 8 = nI l ∧ r.1 (56 + 4 * d) 9 = nI F ∧ r.1 (56 + 4 * d) 10 = nI Y ∧ r.1 (56 + 4 * d) 11 = nI X
      rw [r1 _ (by omega)]
      exact ⟨m8, m9, m10, m11⟩
    · obtain ⟨s1, s2⟩ := hc.2.2.1 k g' hk hL'
      by_cases e2 : k = l
      · subst e2
        refine ⟨fun i hi => ?_, fun i y x hi hy hx => ?_⟩
        · rw [r2 i hi, m1 _ (by omega) (by omega), s1 i hi, sumM_app, sum_mkS, Int32.one_mul, nI_add]
        · rw [r3.2 i y x hi hy hx, m2]
          have cross := (List.pairwise_append.mp hwm.2.2.2.1).2.2
          constructor
          · intro h
            by_cases hb : dB D F Y X 0 i y x = true
            · obtain ⟨s, hs, hv⟩ := cov_mkS (d := d) (l := k) |>.mpr hb
              exact ⟨s, List.mem_append_right _ hs, hv⟩
            · rw [Bool.eq_false_iff.mpr hb, Bool.xor_false] at h
              obtain ⟨s, hs, hv⟩ := (s2 i y x hi hy hx).mp h
              exact ⟨s, List.mem_append_left _ hs, hv⟩
          · rintro ⟨s, hs, hv⟩
            rcases List.mem_append.mp hs with hs | hs
            · have h1 := (s2 i y x hi hy hx).mpr ⟨s, hs, hv⟩
              have hb : dB D F Y X 0 i y x = false := by
                apply Bool.eq_false_iff.mpr
                intro hb
                obtain ⟨t, ht, hv2⟩ := cov_mkS (d := d) (l := k) |>.mpr hb
                exact cross s hs t ht k i x y ⟨hv, hv2⟩
              rw [h1, hb]; rfl
            · have hb : dB D F Y X 0 i y x = true := cov_mkS.mp ⟨s, hs, hv⟩
              have h1 : bitL (μ.2 (11 + 15 * k + 4) (60 * i + y)) x = false := by
                apply Bool.eq_false_iff.mpr
                intro h
                obtain ⟨t, ht, hv2⟩ := (s2 i y x hi hy hx).mp h
                exact cross t ht s hs k i x y ⟨hv2, hv⟩
              rw [h1, hb]; rfl
      · refine ⟨fun i hi => ?_, fun i y x hi hy hx => ?_⟩
        · rw [hfr.1 _ (by omega) (by omega) (by omega), s1 i hi, sumM_app, sum_mkS2 e2, Nat.add_zero]
        · rw [hfr.2 _ (by omega), s2 i y x hi hy hx]
          constructor
          · rintro ⟨s, hs, hv⟩
            exact ⟨s, List.mem_append_left _ hs, hv⟩
          · rintro ⟨s, hs, hv⟩
            rcases List.mem_append.mp hs with hs | hs
            · exact ⟨s, hs, hv⟩
            · obtain ⟨o, ho, hq, rfl⟩ := mem_mkS.mp hs
              exact absurd hv.1.symm e2
/-- a making in a log, if there is a place -/
theorem makeInC {n : Nat} {σ : St} {μ : Mem} {l d : Nat} {g : LogD} {D : DoorD} (hw : WF n σ) (hc : RC σ μ) (hl : l < 3) (hL : σL σ l = some g) (hd : d < 8) (hD : σD σ d = some D) (hM : dM D = none) : ∃ p, isFirst (FT (σS σ) l g D) p ∧ match p with
    | none => f_X8_makeIn (56 + 4 * d) (nI l) μ = some (0, μ)
    | some q => ∃ r, f_X8_makeIn (56 + 4 * d) (nI l) μ = some (1, r) ∧ RC (mkSt σ d D l q.1 q.2.1 q.2.2) r ∧ frm μ r l d := by
  obtain ⟨p, hp, e⟩ := findC hw hc hl hL hd hD
  refine ⟨p, hp, ?_⟩
  unfold f_X8_makeIn
  rw [logAt_some hc.1 hl hL, bd_some, oc_some, e]
  cases p with
  | none =>
    simp only
    rw [bd_some, if_pos rfl]
  | some q =>
    simp only
    rw [bd_some, if_neg (show ¬ (1 : Int32) = 0 by decide)]
    exact makeC hw hc hl hL hd hD hM hp.1.2
theorem takeC {n : Nat} {σ : St} {μ : Mem} {d : Nat} {D : DoorD} {q : Nat × Nat × Nat × Nat} (hw : WF n σ) (hc : RC σ μ) (hd : d < 8) (hD : σD σ d = some D) (hM : dM D = some q) : ∃ r, f_X8_takeBack (56 + 4 * d) μ = some r ∧ RC (unSt σ d D) r ∧ frm μ r q.1 d := by
  have wd := (hw.2.1 d D hD).2
  obtain ⟨hl, g, hL⟩ := WF_made hw hD hM
  obtain ⟨l, F, Y, X⟩ := q
  simp only at hl hL ⊢
  have hg := (hw.1 l g hL).2
  have hN := hg.2.1
  have cg : Cg μ (11 + 15 * l) g := by have := hc.1 l hl; rw [hL] at this; exact this
  have cd : Cd μ (56 + 4 * d) D := by have := hc.2.1 d hd; rw [hD] at this; exact this
  have h6 := hw.2.2.2.2.2.1 d hd
  rw [hD] at h6
  simp only [Option.bind_some, hM] at h6
  have h6' : (σS σ).filter (fun s => tD s == (d : Int)) = mkS d D l F Y X := h6
  have hmem : ∀ s, s ∈ mkS d D l F Y X → s ∈ σS σ ∧ (tD s == (d : Int)) = true := fun s hs => by
    rw [← h6'] at hs; exact List.mem_filter.mp hs
  have hk : ∀ s ∈ σS σ, kp (-1) (nI d) s = !(tD s == (d : Int)) := fun s hs => kp_door hd (hw.2.2.1 s hs).1 (hw.2.2.1 s hs).2.2.2.2.2.2
  have hin : ∀ o, o < 10 → cnt D o ≠ 0 → F + o < gN g ∧ X + dPw D ≤ wdt g (F + o) ∧ Y + cnt D o * dPh D ≤ gLen g := fun o ho hq => by
    have hs := hw.2.2.1 _ (hmem _ (mem_mkS.mpr ⟨o, ho, hq, rfl⟩)).1
    obtain ⟨g2, e2, b1, b2, b3⟩ := hs.2.1
    have e2' : σL σ l = some g2 := e2
    rw [hL] at e2'
    cases e2'
    exact ⟨b1, b2, b3⟩
  obtain ⟨a0, ha0, hla⟩ := least_ex wd
  have hF : F ≤ 12 := by have := (hin a0 ha0 hla.1).1; omega
  have c11 := cd.2.2.2.2.2.2.2.2.2.2
  rw [hM] at c11
  obtain ⟨k8, k9, k10, k11⟩ := c11
  have hch : chd μ (11 + 15 * l) (56 + 4 * d) g D F Y X := ⟨cg.2.1, cg.2.2.1, fun o ho => cd.2.2.2.2.2.2.2.1 o ho, cd.2.2.2.2.1, cd.2.2.2.2.2.1, k9, k10, k11⟩
  obtain ⟨s, e, r1, r2, r3⟩ := changeC (v2 := -1) hg wd (show 11 + 15 * l + 1 < 56 + 4 * d by omega) hin hF hch
  obtain ⟨r, hr⟩ : ∃ r, r = sI (sI (sI (sI s (56 + 4 * d) 8 (-1 : Int32)) (56 + 4 * d) 9 (-1 : Int32)) (56 + 4 * d) 10 (-1 : Int32)) (56 + 4 * d) 11 (-1 : Int32) := ⟨_, rfl⟩
  have t1 : ∀ p, p ≠ 56 + 4 * d → r.1 p = s.1 p := fun p hp => by rw [hr, sI_pl hp, sI_pl hp, sI_pl hp, sI_pl hp]
  have t2 : r.2 = s.2 := by rw [hr]; rfl
  have t3 : ∀ j, j < 8 → r.1 (56 + 4 * d) j = s.1 (56 + 4 * d) j := fun j hj => by rw [hr, sI_sl (by omega), sI_sl (by omega), sI_sl (by omega), sI_sl (by omega)]
  have hfr : frm μ r l d := ⟨fun p h1 h2 h3 => by rw [t1 p h3, r1 p h2], fun p hp => by rw [t2, r3.1 p hp]⟩
  refine ⟨r, ?_, ?_, hfr⟩
  · unfold f_X8_takeBack
    have k8' : μ.1 (56 + 4 * d) 8 = nI l := k8
    rw [k8', logAt_some hc.1 hl hL, bd_some, oc_some]
    unfold f_X4_removeCuts
    rw [e, bi_some, bi_some]
    unfold f_X0_notMade
    rw [bi_some, ← hr]
  · refine RC_door hw hc hl hfr hd ?_ (fun k g' hk' hL' => ?_)
    · refine Cd_set hd cd (fun j hj => by rw [t3 j hj, r1 _ (by omega)]) (fun b h1 h2 => by rw [t1 b (by omega), r1 _ (by omega)]) ?_
      show r.1 (56 + 4 * d) 8 = -1 ∧ r.1 (56 + 4 * d) 9 = -1 ∧ r.1 (56 + 4 * d) 10 = -1 ∧ r.1 (56 + 4 * d) 11 = -1
      rw [hr]
      exact ⟨by simp [sI_at], by simp [sI_at], by simp [sI_at], by simp [sI_at]⟩
    · obtain ⟨s1, s2⟩ := hc.2.2.1 k g' hk' hL'
      have split : ∀ i, sumM (σS σ) k i = sumM ((σS σ).filter (kp (-1) (nI d))) k i + sumM (mkS d D l F Y X) k i := by
        intro i
        rw [← h6']
        have gen : ∀ S : List Strip, (∀ s ∈ S, kp (-1) (nI d) s = !(tD s == (d : Int))) → sumM S k i = sumM (S.filter (kp (-1) (nI d))) k i + sumM (S.filter (fun s => tD s == (d : Int))) k i := by
          intro S
          induction S with
          | nil => intro _; rfl
          | cons u S ih =>
            intro hS
            have h1 := ih (fun s hs => hS s (List.mem_cons_of_mem _ hs))
            have h2 := hS u List.mem_cons_self
            cases hq : (tD u == (d : Int)) with
            | true =>
              rw [hq] at h2
              rw [List.filter_cons_of_neg (by rw [h2]; decide), List.filter_cons_of_pos (p := fun s => tD s == (d : Int)) hq, sumM_cons, sumM_cons, h1]
              omega
            | false =>
              rw [hq] at h2
              rw [List.filter_cons_of_pos (by rw [h2]; rfl), List.filter_cons_of_neg (p := fun s => tD s == (d : Int)) (by rw [hq]; decide), sumM_cons, sumM_cons, h1]
              omega
        exact gen (σS σ) hk
      by_cases e2 : k = l
      · subst e2
        refine ⟨fun i hi => ?_, fun i y x hi hy hx => ?_⟩
        · rw [t1 _ (by omega), r2 i hi, s1 i hi, split i, sum_mkS]
          generalize sumM ((σS σ).filter (kp (-1) (nI d))) k i = A
          generalize cv D F 0 i = B
          rw [iz_nat, iz_nat, iz_nat, show (-1 : Int32) = iz (-1) by decide, iz_mul, iz_add]
          refine congrArg iz ?_
          omega
        · rw [t2, r3.2 i y x hi hy hx]
          have dis : ∀ s t, s ∈ (σS σ).filter (kp (-1) (nI d)) → t ∈ mkS d D k F Y X → ¬ (covS s k i x y ∧ covS t k i x y) := by
            intro s t hs ht
            obtain ⟨a1, a2⟩ := List.mem_filter.mp hs
            obtain ⟨b1, b2⟩ := hmem t ht
            refine pw_ne hw.2.2.2.1 a1 b1 (fun z => ?_) k i x y
            rw [hk s a1, z, b2] at a2
            cases a2
          constructor
          · intro h
            by_cases hb : dB D F Y X 0 i y x = true
            · obtain ⟨t, ht, hv⟩ := cov_mkS (d := d) (l := k) |>.mpr hb
              have := (s2 i y x hi hy hx).mpr ⟨t, (hmem t ht).1, hv⟩
              rw [this, hb] at h
              cases h
            · rw [Bool.eq_false_iff.mpr hb, Bool.xor_false] at h
              obtain ⟨s, hs, hv⟩ := (s2 i y x hi hy hx).mp h
              refine ⟨s, List.mem_filter.mpr ⟨hs, ?_⟩, hv⟩
              rw [hk s hs]
              cases hq : (tD s == (d : Int)) with
              | false => rfl
              | true =>
                have : s ∈ mkS d D k F Y X := by rw [← h6']; exact List.mem_filter.mpr ⟨hs, hq⟩
                exact absurd (cov_mkS.mp ⟨s, this, hv⟩) hb
          · rintro ⟨s, hs, hv⟩
            have hb : dB D F Y X 0 i y x = false := by
              apply Bool.eq_false_iff.mpr
              intro hb
              obtain ⟨t, ht, hv2⟩ := cov_mkS (d := d) (l := k) |>.mpr hb
              exact dis s t hs ht ⟨hv, hv2⟩
            rw [(s2 i y x hi hy hx).mpr ⟨s, (List.mem_filter.mp hs).1, hv⟩, hb]; rfl
      · refine ⟨fun i hi => ?_, fun i y x hi hy hx => ?_⟩
        · rw [hfr.1 _ (by omega) (by omega) (by omega), s1 i hi, split i, sum_mkS2 e2, Nat.add_zero]
        · rw [hfr.2 _ (by omega), s2 i y x hi hy hx]
          constructor
          · rintro ⟨s, hs, hv⟩
            refine ⟨s, List.mem_filter.mpr ⟨hs, ?_⟩, hv⟩
            rw [hk s hs]
            cases hq : (tD s == (d : Int)) with
            | false => rfl
            | true =>
              have : s ∈ mkS d D l F Y X := by rw [← h6']; exact List.mem_filter.mpr ⟨hs, hq⟩
              obtain ⟨o, ho, hq, rfl⟩ := mem_mkS.mp this
              exact absurd hv.1.symm e2
          · rintro ⟨s, hs, hv⟩
            exact ⟨s, (List.mem_filter.mp hs).1, hv⟩
