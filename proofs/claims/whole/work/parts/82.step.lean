/-! the steps make and free -/
theorem Md_pt {μ r : Mem} {k : Nat} {D : DoorD} (h : ∀ b, 38 ≤ b → b < 48 → b ≠ 40 → r.1 b k = μ.1 b k) (h40 : r.1 40 = μ.1 40) (H : Md μ k D) : Md r k D := by
  unfold Md at *
  rw [h 38 (by omega) (by omega) (by omega), h 39 (by omega) (by omega) (by omega), h40, h 41 (by omega) (by omega) (by omega), h 42 (by omega) (by omega) (by omega), h 43 (by omega) (by omega) (by omega), h 44 (by omega) (by omega) (by omega), h 45 (by omega) (by omega) (by omega), h 46 (by omega) (by omega) (by omega), h 47 (by omega) (by omega) (by omega)]
  exact H
theorem MD_upd {μ r : Mem} {d : Nat} {A B : Nat → Option DoorD} (H : MD μ A) (hAB : ∀ k, k ≠ d → B k = A k) (hr : ∀ b k, 38 ≤ b → b < 48 → b ≠ 40 → k ≠ d → r.1 b k = μ.1 b k) (h40 : r.1 40 = μ.1 40) (hd : match B d with
  | none => r.1 38 d = 0 ∧ r.1 44 d = -1
  | some D => Md r d D) : MD r B := by
  intro k hk
  by_cases hkd : k = d
  · subst hkd; exact hd
  · rw [hAB k hkd]
    have H1 := H k hk
    cases hA : A k with
    | none => rw [hA] at H1; show r.1 38 k = 0 ∧ r.1 44 k = -1; rw [hr 38 k (by omega) (by omega) (by omega) hkd, hr 44 k (by omega) (by omega) (by omega) hkd]; exact H1
    | some D => rw [hA] at H1; exact Md_pt (fun b h1 h2 h3 => hr b k h1 h2 h3 hkd) h40 H1
theorem makeM {n : Nat} {σ : St} {μ : Mem} {l d F Y X : Nat} {D : DoorD} (hw : WF n σ) (hn : n < 512) (hm : RM σ μ) (hd : d < 8) (hD : σD σ d = some D) (hM : cmM μ (cnt D)) (h60 : μ.1 0 60 = nI F) (h61 : μ.1 0 61 = nI Y) (h62 : μ.1 0 62 = nI X) : ∃ r, (f_X10_cuts (nI d) (nI l) μ).bind (fun μ12 => (wI μ12 8 44 (nI d) (nI l)).bind (fun μ13 => (wI μ13 8 45 (nI d) (μ13.1 0 60)).bind (fun μ14 => (wI μ14 8 46 (nI d) (μ14.1 0 61)).bind (fun μ15 => (wI μ15 8 47 (nI d) (μ15.1 0 62)).bind (fun μ16 => (rI μ16 8 38 (nI d)).bind (fun e17 => (rI μ16 8 39 (nI d)).bind (fun e18 => (some ((e17 * e18), μ16))))))))) = some (nI (dW D) * nI (dH D), r) ∧ RM (mkSt σ d D l F Y X) r := by
  have wd := (hw.2.1 d D hD).2
  obtain ⟨m1, m2, m3, m4, m5, m6⟩ := hm
  have md : Md μ d D := by have := m2 d hd; rw [hD] at this; exact this
  have h5 := hw.2.2.2.2.1
  obtain ⟨s, e, hS, s1, s2⟩ := cutsM (l := l) wd hd m3 (by omega) hM md h60 h61 h62
  obtain ⟨r, hr⟩ : ∃ r, r = sI (sI (sI (sI s 44 d (nI l)) 45 d (nI F)) 46 d (nI Y)) 47 d (nI X) := ⟨_, rfl⟩
  have r1 : ∀ b, b < 44 ∨ 48 ≤ b → r.1 b = s.1 b := fun b hb => by rw [hr, sI_pl (by omega), sI_pl (by omega), sI_pl (by omega), sI_pl (by omega)]
  have r2 : ∀ b k, k ≠ d → r.1 b k = s.1 b k := fun b k hk => by rw [hr, sI_sl hk, sI_sl hk, sI_sl hk, sI_sl hk]
  refine ⟨r, ?_, ?_⟩
  · rw [e, bi_some, wI_nI hd (by decide), bi_some]
    simp (disch := decide) only [sI_pl]
    rw [s2 60 (by omega), h60, wI_nI hd (by decide), bi_some]
    simp (disch := decide) only [sI_pl]
    rw [s2 61 (by omega), h61, wI_nI hd (by decide), bi_some]
    simp (disch := decide) only [sI_pl]
    rw [s2 62 (by omega), h62, wI_nI hd (by decide), bi_some, ← hr, rI_nI hd (by decide), bi_some, rI_nI hd (by decide), bi_some, r1 38 (by omega), r1 39 (by omega), s1 38 (by omega) (by omega), s1 39 (by omega) (by omega), md.1, md.2.1]
  · refine ⟨ML_of (fun b h1 h2 => by rw [r1 b (by omega), s1 b h1 (by omega)]) m1, MD_upd (d := d) m2 (fun k hk => if_neg hk) (fun b k h1 h2 h3 h4 => by rw [r2 b k h4, s1 b (by omega) (by omega)]) (by rw [r1 40 (by omega), s1 40 (by omega) (by omega)]) ?_, MS_of (by rw [r1 0 (by omega)]) (fun b h1 h2 => r1 b (by omega)) hS, MT_of (by rw [r1 0 (by omega), s2 25 (by omega)]) (by rw [r1 24 (by omega), s1 24 (by omega) (by omega)]) m4, MF_of (by rw [r1 0 (by omega), s2 30 (by omega)]) (by rw [r1 0 (by omega), s2 31 (by omega)]) m5, MP_of (by rw [r1 0 (by omega), s2 66 (by omega)]) (by rw [r1 49 (by omega), s1 49 (by omega) (by omega)]) m6⟩
    show match (if d = d then some (setM D (some (l, F, Y, X))) else σD σ d) with
      | none => r.1 38 d = 0 ∧ r.1 44 d = -1
      | some D => Md r d D
    rw [if_pos rfl]
    obtain ⟨q1, q2, q3, q4, q5, q6, -⟩ := md
    refine ⟨by rw [r1 38 (by omega), s1 38 (by omega) (by omega)]; exact q1, by rw [r1 39 (by omega), s1 39 (by omega) (by omega)]; exact q2, fun c r hc hr => by rw [r1 40 (by omega), s1 40 (by omega) (by omega)]; exact q3 c r hc hr, by rw [r1 41 (by omega), s1 41 (by omega) (by omega)]; exact q4, by rw [r1 42 (by omega), s1 42 (by omega) (by omega)]; exact q5, by rw [r1 43 (by omega), s1 43 (by omega) (by omega)]; exact q6, ?_⟩
    show r.1 44 d = nI l ∧ r.1 45 d = nI F ∧ r.1 46 d = nI Y ∧ r.1 47 d = nI X
    rw [hr]
    exact ⟨by simp [sI_at], by simp [sI_at], by simp [sI_at], by simp [sI_at]⟩
theorem made_no {μ : Mem} {a : Nat} (h : μ.1 a 8 = -1) : f_X0_isMade a μ = some (0, μ) := by unfold f_X0_isMade; rw [if_pos h]
theorem made_yes {μ : Mem} {a l : Nat} (hl : l < 3) (h : μ.1 a 8 = nI l) : f_X0_isMade a μ = some (1, μ) := by unfold f_X0_isMade; rw [h, if_neg (m1_ne hl)]
theorem step_make {n : Nat} {μc μm : Mem} (S : Sim n μc μm) (hn5 : n < 512) (v1 v2 : Int32) : Both n (f_X9_make v1 v2 μc) (f_X10_make v1 v2 μm) := by
  obtain ⟨σ, hw, hc, hm⟩ := S
  have S : Sim n μc μm := ⟨σ, hw, hc, hm⟩
  unfold f_X9_make f_X10_make
  rcases names v1 (σD σ) 8 with ⟨d, D, hd, rfl, hD⟩ | hn
  · have wd := (hw.2.1 d D hD).2
    have cd : Cd μc (56 + 4 * d) D := by have := hc.2.1 d hd; rw [hD] at this; exact this
    have md : Md μm d D := by have := hm.2.1 d hd; rw [hD] at this; exact this
    have c11 := cd.2.2.2.2.2.2.2.2.2.2
    have m7 := md.2.2.2.2.2.2
    rw [doorAt_some hc.2.1 hd hD, isDoor_some hm.2.1 wd hd hD, bd_some, bd_some, oc_some, if_neg (show ¬ (1 : Int32) = 0 by decide)]
    cases hM : dM D with
    | none =>
      rw [hM] at c11 m7
      rw [made_no c11.1, bd_some, if_pos rfl]
      rcases names v2 (σL σ) 3 with ⟨l, g, hl, rfl, hL⟩ | hn2
      · have hg := (hw.1 l g hL).2
        rw [isLog_some hm.1 hg hl hL, bd_some, if_neg (show ¬ (1 : Int32) = 0 by decide), rI_nI hd (by decide), bi_some, m7, if_pos rfl]
        obtain ⟨p, hp, e⟩ := makeInC hw hc hl hL hd hD hM
        obtain ⟨μ1, r2, s1, hcm, hr2, e2⟩ := placesM hw (by omega) hg wd (RP_of hm hl hL hd hD) hl hd
        rw [first_eq hr2 hp] at e2
        cases p with
        | none =>
          simp only at e e2
          rw [e, e2, bd_some, bd_some, if_pos rfl, if_pos rfl]
          exact ⟨_, _, _, rfl, rfl, Sim_sc hw hc hm scC.rf s1.m⟩
        | some q =>
          simp only at e e2
          obtain ⟨r, er, hrc, -⟩ := e
          rw [er, e2, bd_some, bd_some, if_neg (show ¬ (1 : Int32) = 0 by decide), if_neg (show ¬ (1 : Int32) = 0 by decide)]
          obtain ⟨b1, b2, b3⟩ := mfound_at (μ := μ1) (f := q.1) (y := q.2.1) (x := q.2.2)
          have sM := scM.tr s1.m (scM_found (μ := μ1) (f := q.1) (y := q.2.1) (x := q.2.2))
          obtain ⟨r2, er2, hrm⟩ := makeM (l := l) hw hn5 (RM_sc hm sM) hd hD (μ := mfound μ1 q.1 q.2.1 q.2.2) (fun o ho => by unfold mfound; rw [sI_pl (by decide), sI_pl (by decide), sI_pl (by decide)]; exact hcm o ho) b1 b2 b3
          have hcd : Cd r (56 + 4 * d) (setM D (some (l, q.1, q.2.1, q.2.2))) := by
            have := hrc.2.1 d hd
            have e3 : σD (mkSt σ d D l q.1 q.2.1 q.2.2) d = some (setM D (some (l, q.1, q.2.1, q.2.2))) := if_pos rfl
            rw [e3] at this; exact this
          refine ⟨nI (dW D) * nI (dH D), r, r2, ?_, er2, _, WF_mk hw hl hL hd hD hM hp.1.2, hrc, hrm⟩
          unfold f_X1_count
          rw [bd_some, hcd.2.1, hcd.2.2.1]
          rfl
      · have hmk : f_X8_makeIn (56 + 4 * d) v2 μc = some (0, μc) := by
          unfold f_X8_makeIn
          rw [logAt_none hc.1 hn2, bd_some, oc_none]
        rw [hmk, isLog_none hm.1 hn2, bd_some, bd_some, if_pos rfl, if_pos rfl]
        exact Both.keep S _ rfl rfl
    | some q =>
      rw [hM] at c11 m7
      have hq := (WF_made hw hD hM).1
      rw [made_yes hq c11.1, bd_some, if_neg (show ¬ (1 : Int32) = 0 by decide)]
      rcases names v2 (σL σ) 3 with ⟨l, g, hl, rfl, hL⟩ | hn2
      · have hg := (hw.1 l g hL).2
        rw [isLog_some hm.1 hg hl hL, bd_some, if_neg (show ¬ (1 : Int32) = 0 by decide), rI_nI hd (by decide), bi_some, m7.1, if_neg (m1_ne hq)]
        exact Both.keep S _ rfl rfl
      · rw [isLog_none hm.1 hn2, bd_some, if_pos rfl]
        exact Both.keep S _ rfl rfl
  · rw [doorAt_none hc.2.1 hn, isDoor_none hm.2.1 hn, bd_some, bd_some, oc_none, if_pos rfl]
    exact Both.keep S _ rfl rfl
theorem step_free {n : Nat} {μc μm : Mem} (S : Sim n μc μm) (hn5 : n < 512) (v1 : Int32) : Both n (f_X9_free v1 μc) (f_X10_free v1 μm) := by
  obtain ⟨σ, hw, hc, hm⟩ := S
  have S : Sim n μc μm := ⟨σ, hw, hc, hm⟩
  unfold f_X9_free f_X10_free
  rcases names v1 (σD σ) 8 with ⟨d, D, hd, rfl, hD⟩ | hn
  · have wd := (hw.2.1 d D hD).2
    have cd : Cd μc (56 + 4 * d) D := by have := hc.2.1 d hd; rw [hD] at this; exact this
    have md : Md μm d D := by have := hm.2.1 d hd; rw [hD] at this; exact this
    have c11 := cd.2.2.2.2.2.2.2.2.2.2
    have m7 := md.2.2.2.2.2.2
    rw [doorAt_some hc.2.1 hd hD, isDoor_some hm.2.1 wd hd hD, bd_some, bd_some, oc_some, if_neg (show ¬ (1 : Int32) = 0 by decide), rI_nI hd (by decide), bi_some]
    cases hM : dM D with
    | none =>
      rw [hM] at c11 m7
      rw [made_no c11.1, bd_some, if_pos rfl, m7, if_pos rfl]
      exact Both.keep S _ rfl rfl
    | some q =>
      rw [hM] at c11 m7
      have hq := (WF_made hw hD hM).1
      obtain ⟨r, e, hrc, -⟩ := takeC hw hc hd hD hM
      rw [made_yes hq c11.1, bd_some, if_neg (show ¬ (1 : Int32) = 0 by decide), e, bi_some, m7.1, if_neg (m1_ne hq), wI_nI hd (by decide), bi_some]
      obtain ⟨m1, m2, m3, m4, m5, m6⟩ := hm
      have h5 := hw.2.2.2.2.1
      obtain ⟨s, es, hS, s1, s2⟩ := goes_eq (v1 := -1) (v2 := nI d) (μ := sI μm 44 d (-1)) (MS_of (by rw [sI_pl (by decide)]) (fun b h1 h2 => sI_pl (by omega)) m3) (by omega)
      rw [es, bi_some]
      refine ⟨1, r, s, rfl, rfl, unSt σ d D, (WF_un hw hd hD).mono, hrc, ?_⟩
      have k1 : ∀ b, 1 ≤ b → b < 16 ∨ 24 ≤ b → b ≠ 44 → s.1 b = μm.1 b := fun b h1 h2 h3 => by rw [s1 b h1 h2, sI_pl h3]
      refine ⟨ML_of (fun b h1 h2 => k1 b h1 (by omega) (by omega)) m1, MD_upd (d := d) m2 (fun k hk => if_neg hk) (fun b k h1 h2 h3 h4 => by rw [s1 b (by omega) (by omega), sI_sl h4]) (k1 40 (by omega) (by omega) (by omega)) ?_, hS, MT_of (by rw [s2 25 (by omega), sI_pl (by decide)]) (k1 24 (by omega) (by omega) (by omega)) m4, MF_of (by rw [s2 30 (by omega), sI_pl (by decide)]) (by rw [s2 31 (by omega), sI_pl (by decide)]) m5, MP_of (by rw [s2 66 (by omega), sI_pl (by decide)]) (k1 49 (by omega) (by omega) (by omega)) m6⟩
      show match (if d = d then some (setM D none) else σD σ d) with
        | none => s.1 38 d = 0 ∧ s.1 44 d = -1
        | some D => Md s d D
      rw [if_pos rfl]
      obtain ⟨q1, q2, q3, q4, q5, q6, -⟩ := md
      refine ⟨by rw [k1 38 (by omega) (by omega) (by omega)]; exact q1, by rw [k1 39 (by omega) (by omega) (by omega)]; exact q2, fun c r hc hr => by rw [k1 40 (by omega) (by omega) (by omega)]; exact q3 c r hc hr, by rw [k1 41 (by omega) (by omega) (by omega)]; exact q4, by rw [k1 42 (by omega) (by omega) (by omega)]; exact q5, by rw [k1 43 (by omega) (by omega) (by omega)]; exact q6, ?_⟩
      show s.1 44 d = -1
      rw [s1 44 (by omega) (by omega), sI_same]
  · rw [doorAt_none hc.2.1 hn, isDoor_none hm.2.1 hn, bd_some, bd_some, oc_none, if_pos rfl]
    exact Both.keep S _ rfl rfl
