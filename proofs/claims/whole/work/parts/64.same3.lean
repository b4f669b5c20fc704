/-! the step of same -/
theorem fin0 {p : Prop} [Decidable p] {μ : Mem} : (if b01 p = 0 then some ((0 : Int32), μ) else some ((1 : Int32), μ)) = some (b01 p, μ) := by
  by_cases h : p
  · rw [b01_t h, if_neg (by decide)]
  · rw [b01_f h, if_pos rfl]
theorem step_same {n : Nat} {μc μm : Mem} (S : Sim n μc μm) (v1 v2 v3 : Int32) : Both n (f_X9_same v1 v2 v3 μc) (f_X10_same v1 v2 v3 μm) := by
  obtain ⟨σ, hw, hc, hm⟩ := S
  have S : Sim n μc μm := ⟨σ, hw, hc, hm⟩
  unfold f_X9_same f_X10_same
  rcases names v1 (σD σ) 8 with ⟨d, D, hd, rfl, hD⟩ | hn
  · have wd := (hw.2.1 d D hD).2
    have cd : Cd μc (56 + 4 * d) D := by have := hc.2.1 d hd; rw [hD] at this; exact this
    have md : Md μm d D := by have := hm.2.1 d hd; rw [hD] at this; exact this
    rw [doorAt_some hc.2.1 hd hD, isDoor_some hm.2.1 wd hd hD, bd_some, bd_some, oc_some, if_neg (by decide)]
    rcases names v2 (σD σ) 8 with ⟨e, E, he, rfl, hE⟩ | hn
    · have we := (hw.2.1 e E hE).2
      have ce : Cd μc (56 + 4 * e) E := by have := hc.2.1 e he; rw [hE] at this; exact this
      have me : Md μm e E := by have := hm.2.1 e he; rw [hE] at this; exact this
      rw [doorAt_some hc.2.1 he hE, isDoor_some hm.2.1 we he hE, bd_some, bd_some, oc_some, if_neg (by decide), isFrom_eq, bd_some]
      have w2 := wd.2.1
      have w4 := wd.2.2.2.1
      have x2 := we.2.1
      have x4 := we.2.2.2.1
      by_cases h3 : (0 : Int32) ≤ v3 ∧ v3 ≤ 2
      · rw [b01_t h3, if_neg (by decide), if_neg (Int32.not_lt.mpr h3.1), if_pos h3.2]
        -- the class's answer
        obtain ⟨a, b, hab⟩ : ∃ a b : Int32, (a = if v3 = 0 then 0 else 1) ∧ (b = if v3 = 2 then 1 else 0) := ⟨_, _, rfl, rfl⟩
        obtain ⟨ha, hb⟩ := hab
        obtain ⟨ch, hch⟩ : ∃ ch : Int32, ch = (if a = 0 then 0 else 16) ||| (if b = 0 then 0 else 32) := ⟨_, rfl⟩
        have hcl : (if v3 = 0 then (if v3 = (2 : Int32) then bd (f_X1_isLike (56 + 4 * d + 1) (56 + 4 * e + 1) (0 : Int32) (1 : Int32) μc) (fun r19 μ18 => (if r19 = 0 then (some ((0 : Int32), μ18)) else (some ((1 : Int32), μ18)))) else bd (f_X1_isLike (56 + 4 * d + 1) (56 + 4 * e + 1) (0 : Int32) (0 : Int32) μc) (fun r22 μ21 => (if r22 = 0 then (some ((0 : Int32), μ21)) else (some ((1 : Int32), μ21))))) else (if v3 = (2 : Int32) then bd (f_X1_isLike (56 + 4 * d + 1) (56 + 4 * e + 1) (1 : Int32) (1 : Int32) μc) (fun r26 μ25 => (if r26 = 0 then (some ((0 : Int32), μ25)) else (some ((1 : Int32), μ25)))) else bd (f_X1_isLike (56 + 4 * d + 1) (56 + 4 * e + 1) (1 : Int32) (0 : Int32) μc) (fun r29 μ28 => (if r29 = 0 then (some ((0 : Int32), μ28)) else (some ((1 : Int32), μ28)))))) = some (b01 ((dW D = dW E ∧ dH D = dH E) ∧ allB D E a b ch (dH D) 0 = true), μc) := by
          by_cases z0 : v3 = 0
          · have z2 : ¬ v3 = 2 := by rw [z0]; decide
            rw [if_pos z0] at ha
            rw [if_neg z2] at hb
            subst ha; subst hb
            rw [if_pos z0, if_neg z2, isLike_eq wd we cd ce, bd_some, fin0, hch]
          · rw [if_neg z0] at ha
            subst ha
            by_cases z2 : v3 = 2
            · rw [if_pos z2] at hb; subst hb
              rw [if_neg z0, if_pos z2, isLike_eq wd we cd ce, bd_some, fin0, hch]
            · rw [if_neg z2] at hb; subst hb
              rw [if_neg z0, if_neg z2, isLike_eq wd we cd ce, bd_some, fin0, hch]
        rw [hcl, rI_nI hd (by decide), bi_some, rI_nI he (by decide), bi_some, md.1, me.1]
        by_cases hW : dW D = dW E
        · rw [if_pos (by rw [hW]), rI_nI hd (by decide), bi_some, rI_nI he (by decide), bi_some, md.2.1, me.2.1]
          by_cases hH : dH D = dH E
          · rw [if_pos (by rw [hH]), bi_some, rI_nI he (by decide), bi_some, sI_pl (by decide), me.2.1]
            obtain ⟨M, hM⟩ : ∃ M, M = sI (sI μm 0 32 (nI (dW E))) 0 33 (nI (dH E)) := ⟨_, rfl⟩
            rw [← hM]
            have hM1 : ∀ q, 1 ≤ q → M.1 q = μm.1 q := fun q hq => by rw [hM, sI_pl (by omega), sI_pl (by omega)]
            have hM0 : ∀ j, j ≠ 32 → j ≠ 33 → M.1 0 j = μm.1 0 j := fun j h1 h2 => by rw [hM, sI_sl h2, sI_sl h1]
            have hM32 : M.1 0 32 = nI (dW E) := by rw [hM, sI_sl (by decide), sI_same]
            have hM33 : M.1 0 33 = nI (dH E) := by rw [hM, sI_same]
            obtain ⟨r, e1, r1, r2, -⟩ := copyP (v1 := nI d) (v2 := nI e) (v3 := v3) (d := e) (K := fun μ20 => (if v3 ≤ 0 then f_X10_same_L136 (nI d) (fun μ29 => (some ((1 : Int32), μ29))) FU (0 : Int32) μ20 else (if v3 = (2 : Int32) then (f_X10_turns (1 : Int32) (1 : Int32) μ20).bind (fun μ31 => f_X10_same_L136 (nI d) (fun μ32 => (some ((1 : Int32), μ32))) FU (0 : Int32) μ31) else (f_X10_turns (1 : Int32) (0 : Int32) μ20).bind (fun μ33 => f_X10_same_L136 (nI d) (fun μ34 => (some ((1 : Int32), μ34))) FU (0 : Int32) μ33)))) he rfl 64 FU 0 M (by omega) (show 64 < 8192 by omega)
            have hr25 : ∀ c k, c < 8 → k < 8 → c < dW E → k < dH E → r.1 25 (8 * k + c) = nI (dC E c k) := fun c k h1 h2 h4 h5 => by
              rw [r2 _ (by omega) (by omega), hM1 40 (by omega), ← Nat.add_assoc]
              exact me.2.2.1 c k h4 h5
            have fin : ∀ q : Mem, (∀ x, x ≠ 25 → x ≠ 26 → q.1 x = r.1 x) → (∀ c k, c < dW D → k < dH D → q.1 25 (8 * k + c) = nI (dC E (mir a (dW D) c) (mir b (dH D) k)) ^^^ ch) → f_X10_same_L136 (nI d) (fun μ29 => some ((1 : Int32), μ29)) FU 0 q = some (b01 (allB D E a b ch (dH D) 0 = true), q) ∧ scrM μm q := by
              intro q hq hp
              refine ⟨?_, fun x h1 h2 h4 => by rw [hq x h2 h4, r1 x h2, hM1 x h1], fun j h1 h2 => by rw [hq 0 (by decide) (by decide), r1 0 (by decide), hM0 j h1 h2]⟩
              refine cmp_out hd wd (fun c k h1 h2 => ?_) hp ?_ ?_ (dH D) FU 0 (by omega) (show dH D < 8192 by omega)
              · rw [hq 40 (by decide) (by decide), r1 40 (by decide), hM1 40 (by omega)]; exact md.2.2.1 c k h1 h2
              · rw [hq 0 (by decide) (by decide), r1 0 (by decide), hM32, hW]
              · rw [hq 0 (by decide) (by decide), r1 0 (by decide), hM33, hH]
            have hans : b01 ((dW D = dW E ∧ dH D = dH E) ∧ allB D E a b ch (dH D) 0 = true) = b01 (allB D E a b ch (dH D) 0 = true) := by
              by_cases hz : allB D E a b ch (dH D) 0 = true
              · rw [b01_t hz, b01_t ⟨⟨hW, hH⟩, hz⟩]
              · rw [b01_f hz, b01_f (fun z => hz z.2)]
            rw [hans]
            have e1' := e1
            rw [show nI 0 = (0 : Int32) from rfl] at e1'
            rw [e1']
            have close : ∀ q : Mem, f_X10_same_L136 (nI d) (fun μ29 => some ((1 : Int32), μ29)) FU 0 q = some (b01 (allB D E a b ch (dH D) 0 = true), q) ∧ scrM μm q → Both n (some (b01 (allB D E a b ch (dH D) 0 = true), μc)) (f_X10_same_L136 (nI d) (fun μ29 => some ((1 : Int32), μ29)) FU 0 q) := fun q hq => ⟨_, μc, q, rfl, hq.1, σ, hw.mono, hc, RM_scr hm hq.2⟩
            by_cases z0 : v3 = 0
            · rw [if_pos (show v3 ≤ 0 by rw [z0]; decide)]
              have z2 : ¬ v3 = 2 := by rw [z0]; decide
              rw [if_pos z0] at ha
              rw [if_neg z2] at hb
              refine close r (fin r (fun _ _ _ => rfl) (fun c k h1 h2 => ?_))
              have m1 : mir a (dW D) c = c := by unfold mir; rw [if_pos ha]
              have m2 : mir b (dH D) k = k := by unfold mir; rw [if_pos hb]
              have c0 : ch = 0 := by rw [hch, if_pos ha, if_pos hb]; decide
              rw [m1, m2, c0, Int32.xor_zero]
              exact hr25 c k (by omega) (by omega) (by omega) (by omega)
            · have zle : ¬ v3 ≤ 0 := by
                intro q
                apply z0
                have g1 := h3.1
                rw [le_toInt] at q g1
                have e0 : (0 : Int32).toInt = 0 := rfl
                rw [← iz_of v3, show v3.toInt = 0 by omega]; exact iz0.symm
              rw [if_neg zle]
              rw [if_neg z0] at ha
              have hr32 : r.1 0 32 = nI (dW D) := by rw [r1 0 (by decide), hM32, hW]
              have hr33 : r.1 0 33 = nI (dH D) := by rw [r1 0 (by decide), hM33, hH]
              have tr : ∀ vb : Int32, b = vb → ∃ q, f_X10_turns 1 vb r = some q ∧ (f_X10_same_L136 (nI d) (fun μ29 => some ((1 : Int32), μ29)) FU 0 q = some (b01 (allB D E a b ch (dH D) 0 = true), q) ∧ scrM μm q) := by
                intro vb hvb
                obtain ⟨q, t1, t2, t3⟩ := turns_eq (v1 := 1) (v2 := vb) w2 w4 hr32 hr33
                refine ⟨q, t1, fin q t2 (fun c k h1 h2 => ?_)⟩
                have l1 := mir_lt (v := (1 : Int32)) h1
                have l2 := mir_lt (v := vb) h2
                have hx : ((if (1 : Int32) = 0 then (0 : Int32) else 16) ^^^ (if vb = 0 then (0 : Int32) else 32)) = ((if (1 : Int32) = 0 then (0 : Int32) else 16) ||| (if vb = 0 then (0 : Int32) else 32)) := by
                  by_cases hz : vb = 0
                  · rw [if_pos hz]; decide
                  · rw [if_neg hz]; decide
                rw [t3 c k h1 h2, hr25 _ _ (by omega) (by omega) (by omega) (by omega), hch, ha, hvb, Int32.xor_assoc, hx]
              by_cases z2 : v3 = 2
              · rw [if_pos z2] at hb
                obtain ⟨q, t1, t2⟩ := tr 1 hb
                rw [if_pos z2, t1, bi_some]
                exact close q t2
              · rw [if_neg z2] at hb
                obtain ⟨q, t1, t2⟩ := tr 0 hb
                rw [if_neg z2, t1, bi_some]
                exact close q t2
          · rw [if_neg (fun q => hH (nI_inj (by omega) (by omega) q)), b01_f (fun z => hH z.1.2)]
            exact Both.keep S _ rfl rfl
        · rw [if_neg (fun q => hW (nI_inj (by omega) (by omega) q)), b01_f (fun z => hW z.1.1)]
          exact Both.keep S _ rfl rfl
      · rw [b01_f h3, if_pos rfl]
        refine Both.keep S (-1) rfl ?_
        by_cases h0 : v3 < 0
        · rw [if_pos h0]
        · rw [if_neg h0, if_neg (fun q => h3 ⟨Int32.not_lt.mp h0, q⟩)]
    · rw [doorAt_none hc.2.1 hn, isDoor_none hm.2.1 hn, bd_some, bd_some]
      exact Both.keep S (-1) rfl rfl
  · rw [doorAt_none hc.2.1 hn, isDoor_none hm.2.1 hn, bd_some, bd_some]
    refine Both.keep S (-1) ?_ rfl
    rw [oc_none]
    rcases names v2 (σD σ) 8 with ⟨e, E, he, rfl, hE⟩ | hn2
    · rw [doorAt_some hc.2.1 he hE, bd_some]; rfl
    · rw [doorAt_none hc.2.1 hn2, bd_some]; rfl
