/-! a log changes; the step of tone -/
theorem WFg_fl {g : LogD} (h : WFg g) : (gF g).length ≤ 10 := h.2.2.2.2.2.2.2.2.2.2.2.1
theorem oc_some {β : Type} {a : β} {f : Nat → β} {k : Nat} : oc (some k) a f = f k := rfl
theorem oc_none {β : Type} {a : β} {f : Nat → β} : oc none a f = a := rfl
def updL (σ : St) (l : Nat) (g : LogD) : St := (fun k => if k = l then some g else σL σ k, σD σ, σS σ, σT σ, σF σ, σP σ)
theorem updL_same {σ : St} {l : Nat} {g : LogD} : σL (updL σ l g) l = some g := if_pos rfl
theorem updL_ne {σ : St} {l k : Nat} {g : LogD} (h : k ≠ l) : σL (updL σ l g) k = σL σ k := if_neg h
theorem WFs_upd {σ : St} {l : Nat} {g g' : LogD} {s : Strip} (hL : σL σ l = some g) (e1 : gN g' = gN g) (e2 : gLen g' = gLen g) (e3 : gW g' = gW g) (e4 : gG g' = gG g) (h : WFs σ s) : WFs (updL σ l g') s := by
  obtain ⟨h1, ⟨q, h2, h3, h4, h5⟩, h6⟩ := h
  refine ⟨h1, ?_, h6⟩
  by_cases hl : tL s = l
  · have hq : g = q := by rw [hl, hL] at h2; exact Option.some.inj h2
    subst hq
    exact ⟨g', by rw [hl]; exact updL_same, by rw [e1]; exact h3, by unfold wdt; rw [e3, e4]; exact h4, by rw [e2]; exact h5⟩
  · exact ⟨q, by rw [updL_ne hl]; exact h2, h3, h4, h5⟩
theorem WF_updL {σ : St} {n l : Nat} {g g' : LogD} (hw : WF n σ) (hL : σL σ l = some g) (hg : WFg g') (e1 : gN g' = gN g) (e2 : gLen g' = gLen g) (e3 : gW g' = gW g) (e4 : gG g' = gG g) : WF (n + 1) (updL σ l g') := by
  have hl3 := (hw.1 l g hL).1
  obtain ⟨w1, w2, w3, w4, w5, w6, w7, w8, w9⟩ := hw.mono
  refine ⟨fun k q hk => ?_, w2, fun s hs => WFs_upd hL e1 e2 e3 e4 (w3 s hs), w4, w5, w6, w7, w8, w9⟩
  by_cases hkl : k = l
  · subst hkl
    rw [updL_same] at hk
    cases hk
    exact ⟨hl3, hg⟩
  · exact w1 k q (by rw [updL_ne hkl] at hk; exact hk)
theorem RC_updL {σ : St} {μ r : Mem} {n l : Nat} {g' : LogD} (hw : WF n σ) (hc : RC σ μ) (hl : l < 3) (h1 : ∀ b, (b < 11 + 15 * l ∨ 26 + 15 * l ≤ b) → r.1 b = μ.1 b) (h2 : ∀ b, (b < 11 + 15 * l ∨ 26 + 15 * l ≤ b) → r.2 b = μ.2 b) (hg : Cg r (11 + 15 * l) g') (hs1 : r.1 (11 + 15 * l + 1) = μ.1 (11 + 15 * l + 1)) (hs2 : r.2 (11 + 15 * l + 4) = μ.2 (11 + 15 * l + 4)) (hth : ∃ g, σL σ l = some g) : RC (updL σ l g') r := by
  obtain ⟨c1, c2, c3, c4, c5, c6⟩ := hc
  refine ⟨fun k hk => ?_, CD_of (fun b hb _ => h1 b (by omega)) c2, fun k q hk hL => ?_, CT2_of (by rw [h1 1 (by omega)]) (h1 2 (by omega)) c4, CF_of (by rw [h1 3 (by omega)]) (by rw [h1 3 (by omega)]) c5, CP_of (h1 89 (by omega)) c6⟩
  · by_cases hkl : k = l
    · subst hkl; rw [updL_same]; exact hg
    · have hq := c1 k hk
      rw [updL_ne hkl]
      cases hLk : σL σ k with
      | none => rw [hLk] at hq; show r.1 (11 + 15 * k) 0 = 0; rw [h1 _ (by omega)]; exact hq
      | some q =>
        rw [hLk] at hq
        exact Cg_of (WFg_fl (hw.1 k q hLk).2) (fun b h3 h4 => h1 b (by omega)) (h2 _ (by omega)) hq
  · by_cases hkl : k = l
    · subst hkl
      obtain ⟨g, hg2⟩ := hth
      obtain ⟨d1, d2⟩ := c3 k g hk hg2
      exact ⟨fun i hi => by rw [hs1]; exact d1 i hi, fun i y x hi hy hx => by rw [hs2]; exact d2 i y x hi hy hx⟩
    · obtain ⟨d1, d2⟩ := c3 k q hk (by rw [← hL]; exact (updL_ne hkl).symm)
      exact ⟨fun i hi => by rw [h1 _ (by omega)]; exact d1 i hi, fun i y x hi hy hx => by rw [h2 _ (by omega)]; exact d2 i y x hi hy hx⟩
theorem Mg_pt {μ r : Mem} {l : Nat} {g : LogD} (hf : (gF g).length ≤ 10) (h1 : ∀ b, 1 ≤ b → b < 8 → r.1 b l = μ.1 b l) (h2 : ∀ b k, 8 ≤ b → b < 16 → k < 10 → r.1 b (10 * l + k) = μ.1 b (10 * l + k)) (H : Mg μ l g) : Mg r l g := by
  obtain ⟨a1, a2, a3, a4, a5, a6, a7, a8⟩ := H
  refine ⟨by rw [h1 1 (by omega) (by omega)]; exact a1, by rw [h1 2 (by omega) (by omega)]; exact a2, by rw [h1 3 (by omega) (by omega)]; exact a3, by rw [h1 4 (by omega) (by omega)]; exact a4, by rw [h1 5 (by omega) (by omega)]; exact a5, by rw [h1 6 (by omega) (by omega)]; exact a6, by rw [h1 7 (by omega) (by omega)]; exact a7, fun k f hk => ?_⟩
  have hk2 : k < (gF g).length := (List.getElem?_eq_some_iff.mp hk).1
  have H := a8 k f hk
  unfold Mf at *
  rw [h2 8 k (by omega) (by omega) (by omega), h2 9 k (by omega) (by omega) (by omega), h2 10 k (by omega) (by omega) (by omega), h2 11 k (by omega) (by omega) (by omega), h2 12 k (by omega) (by omega) (by omega), h2 13 k (by omega) (by omega) (by omega), h2 14 k (by omega) (by omega) (by omega), h2 15 k (by omega) (by omega) (by omega)]
  exact H
theorem RM_updL {σ : St} {μ r : Mem} {n l : Nat} {g' : LogD} (hw : WF n σ) (hm : RM σ μ) (hl : l < 3) (h0 : ∀ b, b = 0 ∨ 16 ≤ b → r.1 b = μ.1 b) (h1 : ∀ b k, 1 ≤ b → b < 8 → k < 3 → k ≠ l → r.1 b k = μ.1 b k) (h2 : ∀ b k i, 8 ≤ b → b < 16 → k < 3 → k ≠ l → i < 10 → r.1 b (10 * k + i) = μ.1 b (10 * k + i)) (hg : Mg r l g') : RM (updL σ l g') r := by
  obtain ⟨m1, m2, m3, m4, m5, m6⟩ := hm
  have e0 := h0 0 (Or.inl rfl)
  refine ⟨fun k hk => ?_, MD_of (fun b hb _ => h0 b (by omega)) m2, MS_of (by rw [e0]) (fun b hb _ => h0 b (by omega)) m3, MT_of (by rw [e0]) (h0 24 (by omega)) m4, MF_of (by rw [e0]) (by rw [e0]) m5, MP_of (by rw [e0]) (h0 49 (by omega)) m6⟩
  by_cases hkl : k = l
  · subst hkl; rw [updL_same]; exact hg
  · have hq := m1 k hk
    rw [updL_ne hkl]
    cases hLk : σL σ k with
    | none => rw [hLk] at hq; show r.1 1 k = 0; rw [h1 1 k (by omega) (by omega) hk hkl]; exact hq
    | some q =>
      rw [hLk] at hq
      exact Mg_pt (WFg_fl (hw.1 k q hLk).2) (fun b h3 h4 => h1 b k h3 h4 hk hkl) (fun b i h3 h4 h5 => h2 b k i h3 h4 hk hkl h5) hq
theorem rng_iz {x : Int32} {a b : Int} (h1 : iz a ≤ x) (h2 : x ≤ iz b) (ha : -2147483648 ≤ a) (ha2 : a < 2147483648) (hb : -2147483648 ≤ b) (hb2 : b < 2147483648) : a ≤ x.toInt ∧ x.toInt ≤ b := by
  rw [le_toInt, iz_toInt ha ha2] at h1
  rw [le_toInt, iz_toInt hb hb2] at h2
  exact ⟨h1, h2⟩
theorem step_tone {n : Nat} {μc μm : Mem} (S : Sim n μc μm) (v1 v2 v3 : Int32) : Both n (f_X9_tone v1 v2 v3 μc) (f_X10_tone v1 v2 v3 μm) := by
  obtain ⟨σ, hw, hc, hm⟩ := S
  have S : Sim n μc μm := ⟨σ, hw, hc, hm⟩
  unfold f_X9_tone f_X10_tone
  rcases names v1 (σL σ) 3 with ⟨l, g, hl, rfl, hL⟩ | hn
  · have hg := (hw.1 l g hL).2
    have cg : Cg μc (11 + 15 * l) g := by have := hc.1 l hl; rw [hL] at this; exact this
    have mg : Mg μm l g := by have := hm.1 l hl; rw [hL] at this; exact this
    rw [logAt_some hc.1 hl hL, isLog_some hm.1 hg hl hL, bd_some, bd_some, if_neg (by decide)]
    rw [oc_some, isFrom_eq, isIn_eq, bd_some, bd_some]
    by_cases h2 : (0 : Int32) ≤ v2 ∧ v2 ≤ 100
    · rw [b01_t h2, if_neg (by decide), if_neg (by decide), isFrom_eq, isIn_eq, bd_some, bd_some]
      by_cases h3 : (-5 : Int32) ≤ v3 ∧ v3 ≤ 5
      · rw [b01_t h3, if_neg (by decide), if_neg (by decide), wI_nI hl (by decide), bi_some, wI_nI hl (by decide), bi_some]
        obtain ⟨t, ht, rfl⟩ := nI_rng h2.1 (show v2.toInt ≤ (100 : Nat) from by have := h2.2; rw [le_toInt] at this; exact this)
        obtain ⟨r1, r2⟩ := rng_iz (a := -5) (b := 5) h3.1 h3.2 (by omega) (by omega) (by omega) (by omega)
        obtain ⟨z, hz⟩ : ∃ z, z = v3.toInt := ⟨_, rfl⟩
        have ez : v3 = iz z := by rw [hz, iz_of]
        rw [ez]
        rw [← hz] at r1 r2
        obtain ⟨c0, c1, c2, c3, c4, c5, c6, c7, c8, c9⟩ := cg
        obtain ⟨m1, m2, m3, m4, m5, m6, m7, m8⟩ := mg
        obtain ⟨w1, w2, w3, w4, w5, w6, w7, w8, w9, w10, w11, w12, w13⟩ := hg
        refine ⟨1, _, _, rfl, rfl, updL σ l (gN g, gLen g, gW g, gG g, t, z, gF g), WF_updL hw hL ⟨w1, w2, w3, w4, w5, w6, w7, w8, ht, r1, r2, w12, w13⟩ rfl rfl rfl rfl, ?_, ?_⟩
        · have e : ∀ b, b ≠ 11 + 15 * l → (sI (sI μc (11 + 15 * l) 3 (nI t)) (11 + 15 * l) 4 (iz z)).1 b = μc.1 b := fun b hb => by rw [sI_pl hb, sI_pl hb]
          refine RC_updL hw hc hl (fun b hb => e b (by omega)) (fun b _ => rfl) ⟨?_, ?_, ?_, ?_, ?_, ?_, ?_, ?_, fun k f hk => Cf_of (e _ (by omega)) (c8 k f hk), c9⟩ (e _ (by omega)) rfl ⟨g, hL⟩
          · rw [sI_sl (by decide), sI_sl (by decide)]; exact c0
          · rw [sI_sl (by decide), sI_sl (by decide)]; exact c1
          · rw [sI_sl (by decide), sI_sl (by decide)]; exact c2
          · rw [sI_sl (by decide), sI_sl (by decide)]; exact c3
          · rw [sI_sl (by decide), sI_sl (by decide)]; exact c4
          · rw [sI_sl (by decide), sI_same]
          · rw [sI_same]
          · rw [sI_sl (by decide), sI_sl (by decide)]; exact c7
        · refine RM_updL hw hm hl (fun b hb => by rw [sI_pl (by omega), sI_pl (by omega)]) (fun b k _ _ _ hk => by rw [sI_sl hk, sI_sl hk]) (fun b k i _ _ _ _ _ => by rw [sI_pl (by omega), sI_pl (by omega)]) ⟨?_, ?_, ?_, ?_, ?_, ?_, ?_, fun k f hk => ?_⟩
          · rw [sI_pl (by decide), sI_pl (by decide)]; exact m1
          · rw [sI_pl (by decide), sI_pl (by decide)]; exact m2
          · rw [sI_pl (by decide), sI_pl (by decide)]; exact m3
          · rw [sI_pl (by decide), sI_pl (by decide)]; exact m4
          · rw [sI_pl (by decide), sI_same]
          · rw [sI_same]
          · rw [sI_pl (by decide), sI_pl (by decide)]; exact m7
          · have H := m8 k f hk
            unfold Mf at *
            simp (disch := omega) only [sI_pl]
            exact H
      · rw [b01_f h3]; exact Both.keep S 0 rfl rfl
    · rw [b01_f h2]; exact Both.keep S 0 rfl rfl
  · rw [logAt_none hc.1 hn, isLog_none hm.1 hn, bd_some, bd_some]
    exact Both.keep S 0 rfl rfl
