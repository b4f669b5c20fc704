/-! the step of plan -/
def stP (σ : St) (P : Nat → Int) : St := (σL σ, σD σ, σS σ, σT σ, σF σ, P)
theorem bitD {D : Prop} [Decidable D] : (if D then (0 : Int32) else 1) = b01 (¬ D) := by
  unfold b01; by_cases h : D
  · rw [if_pos h, if_neg (fun z => z h)]
  · rw [if_neg h, if_pos h]
theorem planC {n : Nat} {σ : St} {μ : Mem} {A : List Nat} {pl : List Strip → Nat → Nat → Option (List Strip)} (hw : WF n σ) (hc : RC σ μ) (hpl : HP pl (σL σ) (σD σ)) (hA3 : A.length ≤ 3) (hnd : A.Nodup) (hAd : ∀ d ∈ A, d < 8 ∧ ∃ D, σD σ d = some D ∧ dM D = none) (h5 : μ.1 88 5 = nI A.length) (h90 : ∀ i x, A[i]? = some x → μ.1 90 i = nI x) : ∃ r, ((F_X5_tryDoor (0 : Int32) (0 : Int32) (sI μ 88 6 (4 : Int32))).bind (fun μ4 => (if (μ4.1 88 6) ≤ (3 : Int32) then (f_J7_fill_53178 8 89 (-1 : Int32) μ4).bind (fun μ6 => f_X5_tell_L41 (fun μ11 => (some ((μ11.1 88 6), μ11))) FU (0 : Int32) μ6) else (some ((-2 : Int32), μ4))))) = some (if (fld pl (σS σ) A 0 [] (4, [])).1 = 4 then -2 else nI (fld pl (σS σ) A 0 [] (4, [])).1, r) ∧ (if (fld pl (σS σ) A 0 [] (4, [])).1 = 4 then RC σ r else (RC (stP σ (pT A (fld pl (σS σ) A 0 [] (4, [])).2)) r ∧ (fld pl (σS σ) A 0 [] (4, [])).2.length = A.length ∧ ∀ l ∈ (fld pl (σS σ) A 0 [] (4, [])).2, l < 3)) := by
  have hs : scC μ (sI μ 88 6 4) := ⟨fun p _ _ _ _ _ h88 _ _ _ => sI_pl h88, by rw [sI_pl (by decide)], by rw [sI_pl (by decide)], rfl⟩
  have hT : TI (sI μ 88 6 4) A [] (4, []) := ⟨by rw [sI_sl (by decide)]; exact h5, by rw [sI_same]; rfl, Nat.le_refl 4, fun i x hi => by rw [sI_pl (by decide)]; exact h90 i x hi, fun i l hi => (by cases hi), fun h => absurd h (by decide)⟩
  obtain ⟨s, es, hsc, hTs⟩ := tryC hpl hA3 A 8 n [] [] 0 (4, []) σ (sI μ 88 6 4) (by omega) hw (RC_sc hw hc hs) rfl rfl rfl (by decide) (fun l hl => by cases hl) hnd (fun d hd => by
    obtain ⟨h1, D, h2, h3⟩ := hAd d hd
    exact ⟨h1, D, h2, h3, h2⟩) hT
  have es' : F_X5_tryDoor (0 : Int32) (0 : Int32) (sI μ 88 6 4) = some s := es
  rw [es', bi_some]
  generalize fld pl (σS σ) A 0 [] (4, []) = b at *
  obtain ⟨t1, t2, t3, t4, t5, t6⟩ := hTs
  rw [t2]
  have c3 : nI b.1 ≤ (3 : Int32) ↔ b.1 ≤ 3 := by rw [show (3 : Int32) = iz 3 by decide, iz_nat, iz_le (by omega) (by omega) (by omega) (by omega)]; omega
  by_cases h4 : b.1 = 4
  · rw [if_neg (fun z => by have := c3.mp z; omega)]
    simp only [if_pos h4]
    exact ⟨s, rfl, hsc⟩
  · have hb3 : b.1 ≤ 3 := by omega
    obtain ⟨q1, q2, q3⟩ := t6 hb3
    rw [if_pos (c3.mpr hb3)]
    simp only [if_neg h4]
    obtain ⟨f, ef, f1, f2, f3⟩ := fillI (n0 := 8) (b := 89) (v := -1) (μ := s) (by omega)
    rw [ef, bi_some]
    obtain ⟨r, er, r1, r2, r3, r4⟩ := teC (K := fun μ11 => (some ((μ11.1 88 6), μ11))) hA3 q1 hnd (fun x hx => (hAd x hx).1) A.length FU 0 f (by omega) (show A.length < 8192 by omega) (by rw [f2 88 (by decide)]; exact t1) (fun i x hi => by rw [f2 90 (by decide)]; exact t4 i x hi) (fun i l hi => by rw [f2 92 (by decide)]; exact q3 i l hi)
    rw [show nI 0 = (0 : Int32) from rfl] at er
    rw [er, r1 88 (by decide), f2 88 (by decide), t2]
    refine ⟨r, rfl, ?_, q1, q2⟩
    obtain ⟨c1, c2, c3', c4, c5, c6⟩ := hsc
    have k1 : ∀ p, p ≠ 89 → r.1 p = s.1 p := fun p hp => by rw [r1 p hp, f2 p hp]
    have k2 : r.2 = s.2 := by rw [r2, f1]
    refine ⟨CL_of hw.1 (fun b h1 h2 => k1 b (by omega)) (fun b _ _ => by rw [k2]) c1, CD_of (fun b h1 h2 => k1 b (by omega)) c2, CS_of (fun b h1 h2 => k1 b (by omega)) (fun b _ _ => by rw [k2]) c3', CT2_of (by rw [k1 1 (by omega)]) (k1 2 (by omega)) c4, CF_of (by rw [k1 3 (by omega)]) (by rw [k1 3 (by omega)]) c5, fun d hd => ?_⟩
    show r.1 89 d = iz (pT A b.2 d)
    by_cases hdA : d ∈ A
    · obtain ⟨i, hi, e⟩ := List.mem_iff_getElem.mp hdA
      have hAi : A[i]? = some d := by rw [List.getElem?_eq_getElem hi, e]
      obtain ⟨l, hl⟩ : ∃ l, b.2[i]? = some l := ⟨_, List.getElem?_eq_getElem (by omega)⟩
      rw [r3 i d l (by omega) hAi hl, pT_in A b.2 i d l hnd hAi hl]; rfl
    · rw [r4 d (fun i _ z => hdA (List.mem_of_getElem? z)), f3 d hd, pT_out A b.2 d hdA]; rfl
theorem planM {n : Nat} {σ : St} {μ : Mem} {A : List Nat} {pl : List Strip → Nat → Nat → Option (List Strip)} (hw : WF n σ) (hn : n < 512) (hm : RM σ μ) (hpl : HP pl (σL σ) (σD σ)) (hA3 : A.length ≤ 3) (hnd : A.Nodup) (hAd : ∀ d ∈ A, d < 8 ∧ ∃ D, σD σ d = some D ∧ dM D = none) (h50 : ∀ i x, A[i]? = some x → μ.1 50 i = nI x) : ∃ r, f_X10_plan_L90 (nI A.length) (nI (3 ^ A.length)) (fun w31 w32 μ33 => (if w31 = (-1 : Int32) then (some ((-2 : Int32), μ33)) else f_X10_plan_L185 (nI A.length) w31 w32 (fun μ37 => f_X10_plan_L211 w31 (fun μ41 => (some (w31, (sI μ41 0 66 (1 : Int32))))) FU w32 (nI A.length - (1 : Int32)) μ37) FU (0 : Int32) μ33)) FU (-1 : Int32) (-1 : Int32) (0 : Int32) μ = some (if (fld pl (σS σ) A 0 [] (4, [])).1 = 4 then -2 else nI (fld pl (σS σ) A 0 [] (4, [])).1, r) ∧ (if (fld pl (σS σ) A 0 [] (4, [])).1 = 4 then RM σ r else RM (stP σ (pT A (fld pl (σS σ) A 0 [] (4, [])).2)) r) := by
  have hN : 3 ^ A.length ≤ 27 := by
    have : A.length = 0 ∨ A.length = 1 ∨ A.length = 2 ∨ A.length = 3 := by omega
    rcases this with h | h | h | h <;> rw [h] <;> decide
  obtain ⟨v3, v4, s, es, hsm, s50, hrl⟩ := code_L (K := fun w31 w32 μ33 => (if w31 = (-1 : Int32) then (some ((-2 : Int32), μ33)) else f_X10_plan_L185 (nI A.length) w31 w32 (fun μ37 => f_X10_plan_L211 w31 (fun μ41 => (some (w31, (sI μ41 0 66 (1 : Int32))))) FU w32 (nI A.length - (1 : Int32)) μ37) FU (0 : Int32) μ33)) hpl hA3 hw hn hnd hAd hN (3 ^ A.length) FU 0 (4, []) (-1) (-1) μ (by omega) (show 3 ^ A.length < 8192 by omega) hm h50 (Or.inl ⟨rfl, rfl⟩)
  rw [← asg_eq A.length (by omega)] at hrl
  rw [show nI 0 = (0 : Int32) from rfl] at es
  rw [es]
  have hf : (asg A.length).foldl (stp pl (σS σ) A 0 []) (4, []) = fld pl (σS σ) A 0 [] (4, []) := rfl
  rw [hf] at hrl
  generalize fld pl (σS σ) A 0 [] (4, []) = b at *
  rcases hrl with ⟨hb, rfl⟩ | ⟨hb, rfl, c, hc, rfl, hb2⟩
  · rw [if_pos rfl]
    simp only [if_pos hb]
    exact ⟨s, rfl, hsm⟩
  · have h4 : ¬ b.1 = 4 := by omega
    have hne : ¬ nI b.1 = (-1 : Int32) := by
      rw [show (-1 : Int32) = iz (-1) by decide, iz_nat]
      exact fun z => by have := (iz_eq (by omega) (by omega) (by omega) (by omega)).mp z; omega
    rw [if_neg hne]
    simp only [if_neg h4]
    obtain ⟨f, ef, f1, f2⟩ := teM0 (v1 := nI A.length) (v3 := nI b.1) (v4 := nI c) (K := fun μ37 => f_X10_plan_L211 (nI b.1) (fun μ41 => (some (nI b.1, (sI μ41 0 66 (1 : Int32))))) FU (nI c) (nI A.length - (1 : Int32)) μ37) 8 FU 0 s rfl (by decide) (fun d hd => absurd hd (Nat.not_lt_zero d))
    rw [show nI 0 = (0 : Int32) from rfl] at ef
    rw [ef]
    have e1 : nI A.length - 1 = iz ((A.length : Int) - 1) := by rw [iz_nat, show (1 : Int32) = iz 1 by decide, iz_sub]
    rw [e1]
    obtain ⟨r, er, r1, r2, r3⟩ := teM (v3 := nI b.1) (K := fun μ41 => (some (nI b.1, (sI μ41 0 66 (1 : Int32))))) hnd (fun x hx => (hAd x hx).1) A.length FU c f hA3 (Nat.le_refl _) (show A.length < 8192 by omega) hc (fun i x hi => by rw [f1 50 (by decide), s50]; exact h50 i x hi)
    rw [er]
    refine ⟨_, rfl, ?_⟩
    obtain ⟨m1, m2, m3, m4, m5, m6⟩ := hsm
    have k1 : ∀ p, p ≠ 49 → p ≠ 0 → (sI r 0 66 1).1 p = s.1 p := fun p hp h0 => by rw [sI_pl h0, r1 p hp, f1 p hp]
    have k2 : ∀ j, j ≠ 66 → (sI r 0 66 1).1 0 j = s.1 0 j := fun j hj => by rw [sI_sl hj, r1 0 (by decide), f1 0 (by decide)]
    refine ⟨ML_of (fun b h1 h2 => k1 b (by omega) (by omega)) m1, MD_of (fun b h1 h2 => k1 b (by omega) (by omega)) m2, MS_of (k2 15 (by omega)) (fun b h1 h2 => k1 b (by omega) (by omega)) m3, MT_of (k2 25 (by omega)) (k1 24 (by omega) (by omega)) m4, MF_of (k2 30 (by omega)) (k2 31 (by omega)) m5, Or.inr ⟨by rw [sI_same], fun d hd => ?_⟩⟩
    show (sI r 0 66 1).1 49 d = iz (pT A b.2 d)
    rw [sI_pl (by decide)]
    by_cases hdA : d ∈ A
    · obtain ⟨i, hi, e⟩ := List.mem_iff_getElem.mp hdA
      have hAi : A[i]? = some d := by rw [List.getElem?_eq_getElem hi, e]
      obtain ⟨l, hl⟩ : ∃ l, b.2[i]? = some l := ⟨_, List.getElem?_eq_getElem (by rw [hb2, dig_len]; omega)⟩
      rw [r2 i d l hAi (by rw [← hb2]; exact hl), pT_in A b.2 i d l hnd hAi hl]; rfl
    · rw [r3 d (fun i _ z => hdA (List.mem_of_getElem? z)), f2 d hd, pT_out A b.2 d hdA]; rfl
theorem pT_rng : ∀ (A B : List Nat) (d : Nat), (∀ l ∈ B, l < 3) → -1 ≤ pT A B d ∧ pT A B d ≤ 2 := by
  intro A
  induction A with
  | nil => intro B d _; unfold pT; omega
  | cons x A ih =>
    intro B d h
    cases B with
    | nil => unfold pT; omega
    | cons l B =>
      have h1 := h l List.mem_cons_self
      have h2 := ih B d (fun y hy => h y (List.mem_cons_of_mem _ hy))
      show -1 ≤ (if x = d then (l : Int) else pT A B d) ∧ (if x = d then (l : Int) else pT A B d) ≤ 2
      by_cases e : x = d
      · rw [if_pos e]; omega
      · rw [if_neg e]; exact h2
theorem WF_stP {n : Nat} {σ : St} {P : Nat → Int} (hw : WF n σ) (hP : ∀ d, d < 8 → -1 ≤ P d ∧ P d ≤ 2) : WF (n + 1) (stP σ P) := by
  obtain ⟨h1, h2, h3, h4, h5, h6, h7, h8, h9, h10, h11, -⟩ := hw.mono
  exact ⟨h1, h2, h3, h4, h5, h6, h7, h8, h9, h10, h11, hP⟩
theorem step_plan {n : Nat} {μc μm : Mem} (S : Sim n μc μm) (hn5 : n < 512) : Both n (f_X9_plan μc) (f_X10_plan μm) := by
  obtain ⟨σ, hw, hc, hm⟩ := S
  unfold f_X9_plan f_X5_tell f_X5_gatherWaiting f_X10_plan
  have hs : scC μc (sI μc 88 5 0) := ⟨fun p _ _ _ _ _ h88 _ _ _ => sI_pl h88, by rw [sI_pl (by decide)], by rw [sI_pl (by decide)], rfl⟩
  obtain ⟨rc, hrc, ec⟩ := gaC (K := fun μ12 => (if (μ12.1 88 5) ≤ 0 then (some ((0 : Int32), μ12)) else (some ((1 : Int32), μ12)))) hw 8 FU 0 [] (sI μc 88 5 0) rfl (by decide) (RC_sc hw hc hs) (by decide) (by rw [sI_same]; rfl) (fun i x hi => (by cases hi))
  obtain ⟨rm, hrm, em⟩ := gaM (K := fun w9 μ10 => (if w9 = 0 then (some ((-1 : Int32), μ10)) else (if w9 = (1 : Int32) then f_X10_plan_L90 w9 (3 : Int32) (fun w31 w32 μ33 => (if w31 = (-1 : Int32) then (some ((-2 : Int32), μ33)) else f_X10_plan_L185 w9 w31 w32 (fun μ37 => f_X10_plan_L211 w31 (fun μ41 => (some (w31, (sI μ41 0 66 (1 : Int32))))) FU w32 (w9 - (1 : Int32)) μ37) FU (0 : Int32) μ33)) FU (-1 : Int32) (-1 : Int32) (0 : Int32) μ10 else (if w9 = (2 : Int32) then f_X10_plan_L90 w9 (9 : Int32) (fun w43 w44 μ45 => (if w43 = (-1 : Int32) then (some ((-2 : Int32), μ45)) else f_X10_plan_L185 w9 w43 w44 (fun μ47 => f_X10_plan_L211 w43 (fun μ48 => (some (w43, (sI μ48 0 66 (1 : Int32))))) FU w44 (w9 - (1 : Int32)) μ47) FU (0 : Int32) μ45)) FU (-1 : Int32) (-1 : Int32) (0 : Int32) μ10 else f_X10_plan_L90 w9 (27 : Int32) (fun w49 w50 μ51 => (if w49 = (-1 : Int32) then (some ((-2 : Int32), μ51)) else f_X10_plan_L185 w9 w49 w50 (fun μ53 => f_X10_plan_L211 w49 (fun μ54 => (some (w49, (sI μ54 0 66 (1 : Int32))))) FU w50 (w9 - (1 : Int32)) μ53) FU (0 : Int32) μ51)) FU (-1 : Int32) (-1 : Int32) (0 : Int32) μ10)))) hw 8 FU 0 [] μm rfl (by decide) hm (by decide) (fun i x hi => (by cases hi))
  cases hg : gw σ 8 0 [] with
  | none =>
    rw [hg] at ec em
    simp only at ec em
    rw [show nI 0 = (0 : Int32) from rfl] at ec
    rw [show nI [].length = (0 : Int32) from rfl, show nI 0 = (0 : Int32) from rfl] at em
    rw [ec, em, bd_some, if_pos rfl, bd_some]
    exact ⟨-1, rc, rm, rfl, rfl, σ, hw.mono, hrc, hrm⟩
  | some A =>
    rw [hg] at ec em
    simp only at ec em
    rw [show nI 0 = (0 : Int32) from rfl] at ec
    rw [show nI [].length = (0 : Int32) from rfl, show nI 0 = (0 : Int32) from rfl] at em
    obtain ⟨ec, h5, h90⟩ := ec
    obtain ⟨em, h50⟩ := em
    obtain ⟨hA3, hnd, hAw⟩ := gw_ok 8 0 [] A hg (by decide) List.nodup_nil (fun x hx => by cases hx)
    have hAd : ∀ d ∈ A, d < 8 ∧ ∃ D, σD σ d = some D ∧ dM D = none := fun d hd => by
      obtain ⟨h1, h2⟩ := hAw d hd
      refine ⟨by omega, ?_⟩
      unfold wtg at h2
      cases hD : σD σ d with
      | none => rw [hD] at h2; cases h2
      | some D => rw [hD] at h2; exact ⟨D, rfl, Option.isNone_iff_eq_none.mp h2⟩
    rw [ec, em, h5]
    by_cases hA0 : A.length = 0
    · rw [hA0, show nI 0 = (0 : Int32) from rfl, if_pos (by decide), if_pos rfl, bd_some, if_pos rfl, bd_some]
      exact ⟨-1, rc, rm, rfl, rfl, σ, hw.mono, hrc, hrm⟩
    · have hpos : ¬ nI A.length ≤ 0 := by rw [iz0, iz_nat, iz_le (by omega) (by omega) (by omega) (by omega)]; omega
      have hne : ¬ nI A.length = 0 := by
        rw [iz0, iz_nat]; exact fun z => hA0 (by have := (iz_eq (by omega) (by omega) (by omega) (by omega)).mp z; omega)
      rw [if_neg hpos, if_neg hne, bd_some, if_neg (show ¬ (1 : Int32) = 0 by decide)]
      obtain ⟨pl, hpl⟩ := HP_ex (σL σ) (σD σ)
      obtain ⟨r1, e1, k1⟩ := planC hw hrc hpl hA3 hnd hAd h5 h90
      obtain ⟨r2, e2, k2⟩ := planM hw hn5 hrm hpl hA3 hnd hAd h50
      have fin : Both n (bd (some (if (fld pl (σS σ) A 0 [] (4, [])).1 = 4 then (-2 : Int32) else nI (fld pl (σS σ) A 0 [] (4, [])).1, r1)) (fun r2 μ1 => (some (r2, μ1)))) (some (if (fld pl (σS σ) A 0 [] (4, [])).1 = 4 then (-2 : Int32) else nI (fld pl (σS σ) A 0 [] (4, [])).1, r2)) := by
        refine ⟨_, r1, r2, rfl, rfl, ?_⟩
        by_cases h4 : (fld pl (σS σ) A 0 [] (4, [])).1 = 4
        · rw [if_pos h4] at k1 k2
          exact ⟨σ, hw.mono, k1, k2⟩
        · rw [if_neg h4] at k1 k2
          exact ⟨_, WF_stP hw (fun d _ => pT_rng A _ d k1.2.2), k1.1, k2⟩
      rw [e1]
      have hcase : A.length = 1 ∨ A.length = 2 ∨ A.length = 3 := by omega
      rcases hcase with h | h | h
      · rw [h] at e2 ⊢
        rw [if_pos (show nI 1 = (1 : Int32) from rfl)]
        rw [show nI (3 ^ 1) = (3 : Int32) from rfl] at e2
        rw [e2]; exact fin
      · rw [h] at e2 ⊢
        rw [if_neg (show ¬ nI 2 = (1 : Int32) by decide), if_pos (show nI 2 = (2 : Int32) from rfl)]
        rw [show nI (3 ^ 2) = (9 : Int32) from rfl] at e2
        rw [e2]; exact fin
      · rw [h] at e2 ⊢
        rw [if_neg (show ¬ nI 3 = (1 : Int32) by decide), if_neg (show ¬ nI 3 = (2 : Int32) by decide)]
        rw [show nI (3 ^ 3) = (27 : Int32) from rfl] at e2
        rw [e2]; exact fin
