/-! plan: the class tries doors -/
theorem bcnt : ∀ u, u < 8 → ∀ μ, f_J6_bitCount_0f7a4 (nI u) μ = some (nI (bc u), μ) := by
  intro u hu μ
  unfold f_J6_bitCount_0f7a4
  congr 2
  revert u
  decide
theorem or_sh : ∀ u, u < 8 → ∀ l, l < 3 → nI u ||| ((1 : Int32) <<< (nI l &&& 31)) = nI (u ||| 2 ^ l) := by decide
theorem bc_lt : ∀ u, u < 8 → bc u ≤ 3 := by decide
/-- a copy from the start of one row to the start of another -/
theorem cp0 {μ : Mem} {n0 a n1 b n : Nat} (h0 : n ≤ n0) (h1 : n ≤ n1) (hn : n < 2 ^ 31) : ∃ r, cpA μ n0 a 0 n1 b 0 (nI n) = some r ∧ r.2 = μ.2 ∧ (∀ p, p ≠ b → r.1 p = μ.1 p) ∧ (∀ j, j < n → r.1 b j = μ.1 a j) ∧ (∀ j, n ≤ j → r.1 b j = μ.1 b j) := by
  have e0 : (0 : Int32).toNatClampNeg = 0 := rfl
  have en : (nI n).toNatClampNeg = n := nI_clamp hn
  have hnn : ¬ nI n < 0 := by rw [iz0, iz_nat, iz_lt (by omega) (by omega) (by omega) (by omega)]; omega
  refine ⟨cpI μ a 0 b 0 n, ?_, rfl, fun p hp => ?_, fun j hj => ?_, fun j hj => ?_⟩
  · unfold cpA
    rw [e0, en, if_pos ⟨by decide, by decide, hnn, by omega, by omega⟩]
  · unfold cpI; exact if_neg hp
  · unfold cpI
    show (if b = b then va_cpy (μ.1 a) (μ.1 b) 0 0 n else μ.1 b) j = _
    rw [if_pos rfl]
    unfold va_cpy
    show (if 0 ≤ j ∧ j < 0 + n then μ.1 a (0 + (j - 0)) else μ.1 b j) = _
    rw [if_pos (by omega), Nat.zero_add, Nat.sub_zero]
  · unfold cpI
    show (if b = b then va_cpy (μ.1 a) (μ.1 b) 0 0 n else μ.1 b) j = _
    rw [if_pos rfl]
    unfold va_cpy
    show (if 0 ≤ j ∧ j < 0 + n then μ.1 a (0 + (j - 0)) else μ.1 b j) = _
    rw [if_neg (by omega)]
/-- the planner's rows -/
def TI (μ : Mem) (A t : List Nat) (b : Nat × List Nat) : Prop := μ.1 88 5 = nI A.length ∧ μ.1 88 6 = nI b.1 ∧ b.1 ≤ 4 ∧ (∀ i d, A[i]? = some d → μ.1 90 i = nI d) ∧ (∀ i l, t[i]? = some l → μ.1 91 i = nI l) ∧ (b.1 ≤ 3 → b.2.length = A.length ∧ (∀ l ∈ b.2, l < 3) ∧ ∀ i l, b.2[i]? = some l → μ.1 92 i = nI l)
theorem TI_of {μ r : Mem} {A t t' : List Nat} {b : Nat × List Nat} (h : TI μ A t b) (h88 : r.1 88 = μ.1 88) (h90 : r.1 90 = μ.1 90) (h92 : r.1 92 = μ.1 92) (h91 : ∀ i l, t'[i]? = some l → r.1 91 i = nI l) : TI r A t' b := by
  obtain ⟨a1, a2, a3, a4, a5, a6⟩ := h
  exact ⟨by rw [h88]; exact a1, by rw [h88]; exact a2, a3, by rw [h90]; exact a4, h91, by rw [h92]; exact a6⟩
theorem tryC {pl : List Strip → Nat → Nat → Option (List Strip)} {L : Nat → Option LogD} {Dr : Nat → Option DoorD} {A : List Nat} (hpl : HP pl L Dr) (hA : A.length ≤ 3) : ∀ (W : List Nat) (dep m : Nat) (pre t : List Nat) (u : Nat) (b : Nat × List Nat) (σ : St) (μ : Mem), W.length < dep → WF m σ → RC σ μ → σL σ = L → A = pre ++ W → t.length = pre.length → u < 8 → (∀ l ∈ t, l < 3) → W.Nodup → (∀ d ∈ W, d < 8 ∧ ∃ D, σD σ d = some D ∧ dM D = none ∧ Dr d = some D) → TI μ A t b → ∃ μ', TD dep (nI pre.length) (nI u) μ = some μ' ∧ RC σ μ' ∧ TI μ' A t (fld pl (σS σ) W u t b) := by
  intro W
  induction W with
  | nil =>
    intro dep m pre t u b σ μ hdep hw hc hL hApp htl hu ht hnd hWd hT
    obtain ⟨dep', rfl⟩ : ∃ q, dep = q + 1 := ⟨dep - 1, by omega⟩
    obtain ⟨a1, a2, a3, a4, a5, a6⟩ := id hT
    have hbu := bc_lt u hu
    show ∃ μ', f_X5_tryDoor (TD dep') (nI pre.length) (nI u) μ = some μ' ∧ _
    unfold f_X5_tryDoor
    rw [bcnt u hu, bd_some, a2]
    have c : nI (bc u) < nI b.1 ↔ bc u < b.1 := by rw [iz_nat, iz_nat, iz_lt (by omega) (by omega) (by omega) (by omega)]; omega
    rw [fld_nil]
    by_cases h : bc u < b.1
    · have hAe : A = pre := by rw [hApp, List.append_nil]
      have hpl3 : pre.length ≤ 3 := by rw [← hAe]; exact hA
      have hnl : ¬ nI pre.length < nI pre.length := by rw [iz_nat, iz_lt (by omega) (by omega) (by omega) (by omega)]; omega
      rw [if_pos (c.mpr h), if_pos h, a1, hAe, if_neg hnl, bcnt u hu, bd_some]
      obtain ⟨M, hMe⟩ : ∃ M, M = sI μ 88 6 (nI (bc u)) := ⟨_, rfl⟩
      rw [← hMe]
      have m5 : M.1 88 5 = nI pre.length := by rw [hMe, sI_sl (by decide), a1, hAe]
      obtain ⟨r, er, r1, r2, r3, -⟩ := cp0 (μ := M) (n0 := 3) (a := 91) (n1 := 3) (b := 92) (n := pre.length) hpl3 hpl3 (by omega)
      rw [m5, er, bi_some]
      refine ⟨r, rfl, RC_sc hw hc ?_, ?_⟩
      · refine ⟨fun p h3 h4 h5 h9 h10 h88 h90 h91 h92 => by rw [r2 p h92, hMe, sI_pl h88], ?_, ?_, by rw [r1, hMe]; rfl⟩
        · rw [r2 3 (by decide), hMe, sI_pl (by decide)]
        · rw [r2 3 (by decide), hMe, sI_pl (by decide)]
      · refine ⟨by rw [r2 88 (by decide), m5], by rw [r2 88 (by decide), hMe, sI_same], by show bc u ≤ 4; omega, fun i d hi => ?_, fun i l hi => ?_, fun _ => ⟨htl, ht, fun i l hi => ?_⟩⟩
        · rw [r2 90 (by decide), hMe, sI_pl (by decide)]
          exact a4 i d (by rw [hAe]; exact hi)
        · rw [r2 91 (by decide), hMe, sI_pl (by decide)]
          exact a5 i l hi
        · have hi3 : i < t.length := (List.getElem?_eq_some_iff.mp hi).1
          rw [r3 i (by omega), hMe, sI_pl (by decide)]
          exact a5 i l hi
    · rw [if_neg (fun z => h (c.mp z)), if_neg h]
      exact ⟨μ, rfl, hc, hT⟩
  | cons d W ih =>
    intro dep m pre t u b σ μ hdep hw hc hL hApp htl hu ht hnd hWd hT
    obtain ⟨dep', rfl⟩ : ∃ q, dep = q + 1 := ⟨dep - 1, by omega⟩
    obtain ⟨a1, a2, a3, a4, a5, a6⟩ := id hT
    have hbu := bc_lt u hu
    have hAl : pre.length + (W.length + 1) = A.length := by rw [hApp, List.length_append, List.length_cons]
    obtain ⟨hd, D, hD, hM, hDr⟩ := hWd d List.mem_cons_self
    have hk : A[pre.length]? = some d := by rw [hApp, List.getElem?_append_right (Nat.le_refl _), Nat.sub_self]; rfl
    show ∃ μ', f_X5_tryDoor (TD dep') (nI pre.length) (nI u) μ = some μ' ∧ _
    unfold f_X5_tryDoor
    rw [bcnt u hu, bd_some, a2]
    have c : nI (bc u) < nI b.1 ↔ bc u < b.1 := by rw [iz_nat, iz_nat, iz_lt (by omega) (by omega) (by omega) (by omega)]; omega
    by_cases h : bc u < b.1
    · have c2 : nI pre.length < nI A.length := by rw [iz_nat, iz_nat, iz_lt (by omega) (by omega) (by omega) (by omega)]; omega
      rw [if_pos (c.mpr h), a1, if_pos c2, rI_nI (by omega) (by decide), bi_some, a4 _ d hk, rR_nI hd (by decide), bi_some, fld_cons]
      have one : ∀ (l n : Nat) (b : Nat × List Nat) (μ : Mem), l < 3 → RC σ μ → TI μ A t b → ∃ μ', f_X5_tryDoor_L64 (TD dep') (nI pre.length) (nI u) (56 + 4 * d) (fun μ15 => some μ15) (n + 1) (nI l) μ = f_X5_tryDoor_L64 (TD dep') (nI pre.length) (nI u) (56 + 4 * d) (fun μ15 => some μ15) n (nI (l + 1)) μ' ∧ RC σ μ' ∧ TI μ' A t (sub pl (σS σ) d W u t l b) := by
        intro l n b μ hl hc hT
        have hl3 : ¬ (3 : Int32) ≤ nI l := nI_ge (b := 3) (by omega) (by omega)
        rw [f_X5_tryDoor_L64, if_neg hl3]
        unfold sub
        cases hLl : L l with
        | none =>
          have hmk : f_X8_makeIn (56 + 4 * d) (nI l) μ = some (0, μ) := by
            unfold f_X8_makeIn
            rw [logAt_none hc.1 (fun l2 h2 e => by rw [hL, ← nI_inj (by omega) (by omega) e]; exact hLl), bd_some, oc_none]
          rw [hmk, bd_some, if_pos rfl, nI_s, (hpl (σS σ) d l).1 hLl]
          exact ⟨μ, rfl, hc, hT⟩
        | some g =>
          have hLg : σL σ l = some g := by rw [hL]; exact hLl
          obtain ⟨p, hp, e⟩ := makeInC hw hc hl hLg hd hD hM
          rw [(hpl (σS σ) d l).2 g D p hLl hDr hp]
          cases p with
          | none =>
            simp only at e
            rw [e, bd_some, if_pos rfl, nI_s]
            exact ⟨μ, rfl, hc, hT⟩
          | some q =>
            simp only at e
            obtain ⟨r, er, hrc, hfr⟩ := e
            rw [er, bd_some, if_neg (show ¬ (1 : Int32) = 0 by decide), wI_nI (by omega) (by decide), bi_some, nI_s, or_sh u hu l hl]
            have hu2 := (bc_or u hu l hl).2
            have hw2 := WF_mk hw hl hLg hd hD hM hp.1.2
            have hrc2 : RC (mkSt σ d D l q.1 q.2.1 q.2.2) (sI r 91 pre.length (nI l)) := RC_sc hw2 hrc (scC_fill (b := 91) (by omega) rfl (fun p hp => sI_pl hp))
            have f88 : ∀ b, 88 ≤ b → r.1 b = μ.1 b := fun b hb => hfr.1 b (by omega) (by omega) (by omega)
            have hT2 : TI (sI r 91 pre.length (nI l)) A (t ++ [l]) b := by
              refine TI_of hT (by rw [sI_pl (by decide), f88 88 (by omega)]) (by rw [sI_pl (by decide), f88 90 (by omega)]) (by rw [sI_pl (by decide), f88 92 (by omega)]) (fun i l2 hi => ?_)
              by_cases e2 : i = pre.length
              · rw [e2, ← htl, List.getElem?_concat_length] at hi
                cases hi
                rw [e2, sI_same]
              · have hi3 : i < (t ++ [l]).length := (List.getElem?_eq_some_iff.mp hi).1
                rw [List.length_append, List.length_singleton] at hi3
                rw [List.getElem?_append_left (by omega)] at hi
                rw [sI_sl e2, f88 91 (by omega)]
                exact hT.2.2.2.2.1 i l2 hi
            obtain ⟨s, es, hsc, hTs⟩ := ih dep' (m + 1) (pre ++ [d]) (t ++ [l]) (u ||| 2 ^ l) b (mkSt σ d D l q.1 q.2.1 q.2.2) (sI r 91 pre.length (nI l)) (by rw [List.length_cons] at hdep; omega) hw2 hrc2 hL (by rw [hApp, List.append_assoc]; rfl) (by rw [List.length_append, List.length_append, htl]; rfl) hu2 (fun x hx => by
              rcases List.mem_append.mp hx with h | h
              · exact ht x h
              · rw [List.mem_singleton.mp h]; exact hl) (List.nodup_cons.mp hnd).2 (fun d2 hd2 => by
              obtain ⟨h1, D2, h2, h3⟩ := hWd d2 (List.mem_cons_of_mem _ hd2)
              have hne : d2 ≠ d := fun z => (List.nodup_cons.mp hnd).1 (by rw [← z]; exact hd2)
              refine ⟨h1, D2, ?_, h3⟩
              show (if d2 = d then _ else σD σ d2) = some D2
              rw [if_neg hne]; exact h2) hT2
            rw [List.length_append, List.length_singleton] at es
            rw [es, bi_some]
            have hD2 : σD (mkSt σ d D l q.1 q.2.1 q.2.2) d = some (setM D (some (l, q.1, q.2.1, q.2.2))) := if_pos rfl
            obtain ⟨v, ev, hvc, hfv⟩ := takeC (q := (l, q.1, q.2.1, q.2.2)) hw2 hsc hd hD2 rfl
            rw [un_mk hw hd hD hM] at hvc
            rw [ev, bi_some, nI_s]
            have g88 : ∀ b, 88 ≤ b → v.1 b = s.1 b := fun b hb => hfv.1 b (by omega) (by simp only; omega) (by omega)
            refine ⟨v, rfl, hvc, TI_of hTs (g88 88 (by omega)) (g88 90 (by omega)) (g88 92 (by omega)) (fun i l2 hi => ?_)⟩
            have hi3 : i < t.length := (List.getElem?_eq_some_iff.mp hi).1
            rw [g88 91 (by omega)]
            exact hTs.2.2.2.2.1 i l2 (by rw [List.getElem?_append_left hi3]; exact hi)
      obtain ⟨μ1, e1, c1, T1⟩ := one 0 8191 b μ (by omega) hc hT
      obtain ⟨μ2, e2, c2, T2⟩ := one 1 8190 _ μ1 (by omega) c1 T1
      obtain ⟨μ3, e3, c3, T3⟩ := one 2 8189 _ μ2 (by omega) c2 T2
      refine ⟨μ3, ?_, c3, T3⟩
      have e4 : f_X5_tryDoor_L64 (TD dep') (nI pre.length) (nI u) (56 + 4 * d) (fun μ15 => some μ15) 8189 (nI (2 + 1)) μ3 = some μ3 := by
        rw [show (8189 : Nat) = 8188 + 1 from rfl, f_X5_tryDoor_L64, if_pos (by decide)]
      exact e1.trans (e2.trans (e3.trans e4))
    · rw [if_neg (fun z => h (c.mp z)), fld_prune hu h]
      exact ⟨μ, rfl, hc, hT⟩
