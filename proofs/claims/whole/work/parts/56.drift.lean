/-! filling rows; the step of drift -/
theorem fillJ_L {n0 b : Nat} {v : Int64} {K : Mem → Option Mem} (hn0 : n0 < 2 ^ 31) : ∀ (m n k : Nat) (μ : Mem), k + m = n0 → m < n → ∃ r, f_J7_fill_d0a16_L6 n0 b v (nI n0) K n (nI k) μ = K r ∧ r.1 = μ.1 ∧ (∀ p, p ≠ b → r.2 p = μ.2 p) ∧ (∀ q, k ≤ q → q < n0 → r.2 b q = v) ∧ (∀ q, q < k → r.2 b q = μ.2 b q) := by
  intro m
  induction m with
  | zero =>
    intro n k μ hk hn
    obtain ⟨n', rfl⟩ : ∃ n', n = n' + 1 := ⟨n - 1, by omega⟩
    refine ⟨μ, ?_, rfl, fun _ _ => rfl, fun q h1 h2 => by omega, fun _ _ => rfl⟩
    rw [f_J7_fill_d0a16_L6, if_pos (nI_le (by omega) (by omega))]
  | succ m ih =>
    intro n k μ hk hn
    obtain ⟨n', rfl⟩ : ∃ n', n = n' + 1 := ⟨n - 1, by omega⟩
    obtain ⟨r, e, r1, r2, r3, r4⟩ := ih n' (k + 1) (sJ μ b k v) (by omega) (by omega)
    refine ⟨r, ?_, r1, fun p hp => by rw [r2 p hp, sJ_pl hp], fun q h1 h2 => ?_, fun q hq => by rw [r4 q (by omega), sJ_sl (by omega)]⟩
    · rw [f_J7_fill_d0a16_L6, if_neg (nI_ge (show k < n0 by omega) hn0), wJ_nI (by omega) hn0, bi_some, nI_s, e]
    · by_cases hq : q = k
      · subst hq; rw [r4 q (by omega), sJ_same]
      · exact r3 q (by omega) h2
theorem fillJ {n0 b : Nat} {v : Int64} {μ : Mem} (hn0 : n0 < 8000) : ∃ r, f_J7_fill_d0a16 n0 b v μ = some r ∧ r.1 = μ.1 ∧ (∀ p, p ≠ b → r.2 p = μ.2 p) ∧ (∀ q, q < n0 → r.2 b q = v) := by
  obtain ⟨r, e, r1, r2, r3, -⟩ := fillJ_L (b := b) (v := v) (K := fun μ3 => some μ3) (show n0 < 2 ^ 31 by omega) n0 FU 0 μ (by omega) (show n0 < 8192 by omega)
  exact ⟨r, e, r1, r2, fun q hq => r3 q (by omega) hq⟩
theorem fillI_L {n0 b : Nat} {v : Int32} {K : Mem → Option Mem} (hn0 : n0 < 2 ^ 31) : ∀ (m n k : Nat) (μ : Mem), k + m = n0 → m < n → ∃ r, f_J7_fill_53178_L5 n0 b v (nI n0) K n (nI k) μ = K r ∧ r.2 = μ.2 ∧ (∀ p, p ≠ b → r.1 p = μ.1 p) ∧ (∀ q, k ≤ q → q < n0 → r.1 b q = v) ∧ (∀ q, q < k → r.1 b q = μ.1 b q) := by
  intro m
  induction m with
  | zero =>
    intro n k μ hk hn
    obtain ⟨n', rfl⟩ : ∃ n', n = n' + 1 := ⟨n - 1, by omega⟩
    refine ⟨μ, ?_, rfl, fun _ _ => rfl, fun q h1 h2 => by omega, fun _ _ => rfl⟩
    rw [f_J7_fill_53178_L5, if_pos (nI_le (by omega) (by omega))]
  | succ m ih =>
    intro n k μ hk hn
    obtain ⟨n', rfl⟩ : ∃ n', n = n' + 1 := ⟨n - 1, by omega⟩
    obtain ⟨r, e, r1, r2, r3, r4⟩ := ih n' (k + 1) (sI μ b k v) (by omega) (by omega)
    refine ⟨r, ?_, r1, fun p hp => by rw [r2 p hp, sI_pl hp], fun q h1 h2 => ?_, fun q hq => by rw [r4 q (by omega), sI_sl (by omega)]⟩
    · rw [f_J7_fill_53178_L5, if_neg (nI_ge (show k < n0 by omega) hn0), wI_nI (by omega) hn0, bi_some, nI_s, e]
    · by_cases hq : q = k
      · subst hq; rw [r4 q (by omega), sI_same]
      · exact r3 q (by omega) h2
theorem fillI {n0 b : Nat} {v : Int32} {μ : Mem} (hn0 : n0 < 8000) : ∃ r, f_J7_fill_53178 n0 b v μ = some r ∧ r.2 = μ.2 ∧ (∀ p, p ≠ b → r.1 p = μ.1 p) ∧ (∀ q, q < n0 → r.1 b q = v) := by
  obtain ⟨r, e, r1, r2, r3, -⟩ := fillI_L (b := b) (v := v) (K := fun μ3 => some μ3) (show n0 < 2 ^ 31 by omega) n0 FU 0 μ (by omega) (show n0 < 8192 by omega)
  exact ⟨r, e, r1, r2, fun q hq => r3 q (by omega) hq⟩
theorem mark_all {a : Nat} {g : LogD} {K : Mem → Option (Int32 × Mem)} (hw : WFg g) : ∀ (l : List FlawD) (n k : Nat) (μ : Mem), (gF g).drop k = l → k ≤ 10 → l.length < n → μ.1 a 1 = nI (gN g) → μ.1 a 2 = nI (gLen g) → μ.1 a 6 = nI (gW g) → μ.1 a 7 = iz (gG g) → μ.1 a 8 = nI (gF g).length → (∀ k f, (gF g)[k]? = some f → Cf μ (a + 5 + k) f) → ∃ r, f_X4_driftLatest_L55 a K n (nI k) μ = K r ∧ mkR μ r a (fun i y x => l.any (fun f => PO f g (fF f) i y x)) := by
  have h10 := WFg_fl hw
  intro l
  induction l with
  | nil =>
    intro n k μ hk hk10 hn q1 q2 q6 q7 q8 qf
    obtain ⟨n', rfl⟩ : ∃ n', n = n' + 1 := ⟨n - 1, by simp at hn; omega⟩
    have hk2 : (gF g).length ≤ k := List.drop_eq_nil_iff.mp hk
    refine ⟨μ, ?_, mkR.rf (fun _ _ _ => rfl)⟩
    rw [f_X4_driftLatest_L55, q8, if_pos (nI_le hk2 (by omega))]
  | cons f l ih =>
    intro n k μ hk hk10 hn q1 q2 q6 q7 q8 qf
    obtain ⟨n', rfl⟩ : ∃ n', n = n' + 1 := ⟨n - 1, by simp at hn; omega⟩
    obtain ⟨k1, k2, k3⟩ := drop_c hk
    have wff : WFf (gN g) f := hw.2.2.2.2.2.2.2.2.2.2.2.2 f (List.mem_of_getElem? k2)
    obtain ⟨r, e1, m1⟩ := markFlaw_eq hw wff (qf k f k2) q1 q2 q6 q7
    obtain ⟨s, e2, m2⟩ := ih n' (k + 1) r k3 (by omega) (by simp at hn; omega) (by rw [m1.1]; exact q1) (by rw [m1.1]; exact q2) (by rw [m1.1]; exact q6) (by rw [m1.1]; exact q7) (by rw [m1.1]; exact q8) (fun j f2 hj => Cf_of (by rw [m1.1]) (qf j f2 hj))
    refine ⟨s, ?_, mkR.tr m1 m2 (fun i y x _ _ _ => by rw [List.any_cons])⟩
    rw [f_X4_driftLatest_L55, q8, if_neg (nI_ge k1 (by omega)), rR_nI (by omega) (by decide), bi_some, e1, bi_some, nI_s, e2]
theorem step_drift {n : Nat} {μc μm : Mem} (S : Sim n μc μm) (v1 v2 v3 v4 : Int32) : Both n (f_X9_drift v1 v2 v3 v4 μc) (f_X10_drift v1 v2 v3 v4 μm) := by
  obtain ⟨σ, hw, hc, hm⟩ := S
  have S : Sim n μc μm := ⟨σ, hw, hc, hm⟩
  unfold f_X9_drift f_X10_drift
  rcases names v1 (σL σ) 3 with ⟨l, g, hl, rfl, hL⟩ | hn
  · have hg := (hw.1 l g hL).2
    have cg : Cg μc (11 + 15 * l) g := by have := hc.1 l hl; rw [hL] at this; exact this
    have mg : Mg μm l g := by have := hm.1 l hl; rw [hL] at this; exact this
    have hN : gN g ≤ 12 := hg.2.1
    have h10 := WFg_fl hg
    rw [logAt_some hc.1 hl hL, bd_some, oc_some, hasLeaf_eq cg.2.1 (by omega), bd_some, toI64]
    by_cases hi : ∃ i, i < gN g ∧ v2 = nI i
    · rw [b01_t ((leafIx (by omega)).mpr hi)]
      obtain ⟨i, hi, rfl⟩ := hi
      rw [isLeaf_in hm.1 hg hl hL hi, bd_some, if_neg (by decide), if_neg (by decide), isFrom_eq, bd_some, rI_nI hl (by decide), bi_some, mg.2.2.2.2.2.2.1]
      by_cases hk : gF g = []
      · rw [hk, if_pos (show nI ([] : List FlawD).length = 0 by decide)]
        refine Both.keep S 0 ?_ rfl
        by_cases h3 : (-20 : Int32) ≤ v3 ∧ v3 ≤ 20
        · rw [b01_t h3, if_neg (by decide), isFrom_eq, bd_some]
          by_cases h4 : (-20 : Int32) ≤ v4 ∧ v4 ≤ 20
          · rw [b01_t h4, if_neg (by decide)]
            unfold f_X4_driftLatest
            rw [cg.2.2.2.2.2.2.2.1, hk, if_pos (show nI ([] : List FlawD).length = 0 by decide), bd_some, if_pos rfl]
          · rw [b01_f h4, if_pos rfl]
        · rw [b01_f h3, if_pos rfl]
      · obtain ⟨fs, f0, hfs⟩ : ∃ fs f0, gF g = fs ++ [f0] := by
          rcases List.eq_nil_or_concat (gF g) with h | ⟨fs, f0, h⟩
          · exact absurd h hk
          · exact ⟨fs, f0, by rw [h, List.concat_eq_append]⟩
        obtain ⟨k, hkk⟩ : ∃ k, k = fs.length := ⟨_, rfl⟩
        have hlen : (gF g).length = k + 1 := by rw [hfs, List.length_append, List.length_singleton, hkk]
        have hget : (gF g)[k]? = some f0 := by rw [hfs, hkk, List.getElem?_concat_length]
        rw [hlen, if_neg (nI_ne0 (by omega) (by omega)), isIn_eq, bd_some]
        by_cases h3 : (-20 : Int32) ≤ v3 ∧ v3 ≤ 20
        · rw [b01_t h3, if_neg (by decide), if_neg (by decide), isFrom_eq, isIn_eq, bd_some, bd_some]
          by_cases h4 : (-20 : Int32) ≤ v4 ∧ v4 ≤ 20
          · obtain ⟨x1, x2⟩ := rng_iz (a := -20) (b := 20) h3.1 h3.2 (by omega) (by omega) (by omega) (by omega)
            obtain ⟨y1, y2⟩ := rng_iz (a := -20) (b := 20) h4.1 h4.2 (by omega) (by omega) (by omega) (by omega)
            obtain ⟨dx, hdx⟩ : ∃ z, z = v3.toInt := ⟨_, rfl⟩
            obtain ⟨dy, hdy⟩ : ∃ z, z = v4.toInt := ⟨_, rfl⟩
            have ex : v3 = iz dx := by rw [hdx, iz_of]
            have ey : v4 = iz dy := by rw [hdy, iz_of]
            rw [← hdx] at x1 x2
            rw [← hdy] at y1 y2
            obtain ⟨c0, c1, c2, c3, c4, c5, c6, c7, c8, c9⟩ := cg
            obtain ⟨g1, g2, g3, g4, g5, g6, g7, g8⟩ := mg
            have cf0 := c8 k f0 hget
            have mf0 := g8 k f0 hget
            have ei : (10 : Int32) * nI l + nI (k + 1) - 1 = nI (10 * l + k) := by
              rw [show (10 : Int32) = nI 10 from rfl, pk_mul, nI_add, ← Nat.add_assoc, nI_pred]
            have hq30 : 10 * l + k < 30 := by omega
            rw [b01_t h4, if_neg (by decide), if_neg (by decide), rI_nI hl (by decide), bi_some, g7, hlen, ei, rI_nI hq30 (by decide), bi_some, mf0.1, wI_nI hq30 (by decide), bi_some, wI_nI hq30 (by decide), bi_some, wI_nI hq30 (by decide), bi_some]
            unfold f_X4_driftLatest
            rw [c7, hlen, if_neg (nI_ne0 (by omega) (by omega)), nI_pred, rR_nI (show k < 10 by omega) (by decide), bi_some, cf0.1, bi_some]
            have wf0 : WFf (gN g) f0 := hg.2.2.2.2.2.2.2.2.2.2.2.2 f0 (List.mem_of_getElem? hget)
            have hb0 : fF f0 ≤ fL f0 := wf0.1
            have hb1 : fL f0 < gN g := wf0.2.1
            by_cases hfl : fF f0 ≤ i
            · rw [if_pos (nI_le hfl (by omega)), if_pos (nI_le hfl (by omega)), ex, ey]
              obtain ⟨f, hfe⟩ : ∃ f : FlawD, f = (fF f0, i, fX f0, fY f0, fW f0, fH f0, dx, dy) := ⟨_, rfl⟩
              have wff : WFf (gN g) f := by
                obtain ⟨q1, q2, q3, q4, q5, q6, q7, q8, -⟩ := wf0
                rw [hfe]; exact ⟨hfl, hi, q3, q4, q5, q6, q7, q8, x1, x2, y1, y2⟩
              obtain ⟨G, hG⟩ : ∃ G : LogD, G = (gN g, gLen g, gW g, gG g, gT g, gD g, fs ++ [f]) := ⟨_, rfl⟩
              have hGF : gF G = fs ++ [f] := by rw [hG]
              have wfG : WFg G := by
                obtain ⟨q1, q2, q3, q4, q5, q6, q7, q8, q9, q10, q11, q12, q13⟩ := hg
                rw [hG]
                refine ⟨q1, q2, q3, q4, q5, q6, q7, q8, q9, q10, q11, ?_, ?_⟩
                · show (fs ++ [f]).length ≤ 10
                  rw [List.length_append, List.length_singleton]; omega
                · intro f2 hf2
                  rcases List.mem_append.mp hf2 with hz | hz
                  · exact q13 f2 (by rw [hfs]; exact List.mem_append_left _ hz)
                  · rw [List.mem_singleton.mp hz]; exact wff
              obtain ⟨μ1, hμ1⟩ : ∃ μ1, f_X3_driftTo (11 + 15 * l + 5 + k) (nI i) (iz dx) (iz dy) μc = some μ1 ∧ (∀ b, b ≠ 11 + 15 * l + 5 + k → μ1.1 b = μc.1 b) ∧ μ1.2 = μc.2 ∧ Cf μ1 (11 + 15 * l + 5 + k) f := by
                refine ⟨_, rfl, fun b hb => ?_, rfl, ?_⟩
                · rw [sI_pl hb, sI_pl hb, sI_pl hb]
                · obtain ⟨p0, p1, p2, p3, p4, p5, p6, p7⟩ := cf0
                  rw [hfe]
                  refine ⟨?_, ?_, ?_, ?_, ?_, ?_, ?_, ?_⟩
                  · rw [sI_sl (by decide), sI_sl (by decide), sI_sl (by decide)]; exact p0
                  · rw [sI_sl (by decide), sI_sl (by decide), sI_same]
                  · rw [sI_sl (by decide), sI_sl (by decide), sI_sl (by decide)]; exact p2
                  · rw [sI_sl (by decide), sI_sl (by decide), sI_sl (by decide)]; exact p3
                  · rw [sI_sl (by decide), sI_sl (by decide), sI_sl (by decide)]; exact p4
                  · rw [sI_sl (by decide), sI_sl (by decide), sI_sl (by decide)]; exact p5
                  · rw [sI_sl (by decide), sI_same]
                  · rw [sI_same]
              obtain ⟨b1, b2, b3, b4⟩ := hμ1
              obtain ⟨μ2, z1, z2, z3, z4⟩ := fillJ (n0 := 720) (b := 11 + 15 * l + 3) (v := 0) (μ := μ1) (by omega)
              have ea : μ2.1 (11 + 15 * l) = μc.1 (11 + 15 * l) := by rw [z2]; exact b2 _ (by omega)
              have hfl2 : (fs ++ [f]).length = k + 1 := by rw [List.length_append, List.length_singleton, hkk]
              have hcf : ∀ j f2, (gF G)[j]? = some f2 → Cf μ2 (11 + 15 * l + 5 + j) f2 := by
                intro j f2 hj
                rw [hGF] at hj
                by_cases hjk : j = k
                · subst hjk
                  rw [hkk, List.getElem?_concat_length] at hj
                  cases hj
                  exact Cf_of (by rw [z2]) b4
                · have hj3 : j < (fs ++ [f]).length := (List.getElem?_eq_some_iff.mp hj).1
                  rw [List.getElem?_append_left (by omega)] at hj
                  exact Cf_of (by rw [z2]; exact b2 _ (by omega)) (c8 j f2 (by rw [hfs, List.getElem?_append_left (by omega)]; exact hj))
              obtain ⟨μ3, e3, m3⟩ := mark_all (a := 11 + 15 * l) (K := fun μ13 => some (1, μ13)) wfG (gF G) FU 0 μ2 rfl (by omega) (by rw [hGF, hfl2]; exact (show k + 1 < 8192 by omega)) (by rw [ea, hG]; exact c1) (by rw [ea, hG]; exact c2) (by rw [ea, hG]; exact c3) (by rw [ea, hG]; exact c4) (by rw [ea, hGF, hfl2, c7, hlen]) hcf
              rw [b1, bi_some, z1, bi_some, show (0 : Int32) = nI 0 from rfl, e3, bd_some, if_neg (show ¬ (1 : Int32) = nI 0 by decide)]
              obtain ⟨M, hM⟩ : ∃ M, M = sI (sI (sI μm 9 (10 * l + k) (nI i)) 12 (10 * l + k) (iz dx)) 13 (10 * l + k) (iz dy) := ⟨_, rfl⟩
              have n1 : ∀ b, b < 8 ∨ 16 ≤ b → M.1 b = μm.1 b := fun b hb => by rw [hM, sI_pl (by omega), sI_pl (by omega), sI_pl (by omega)]
              have n2 : ∀ b j, j ≠ 10 * l + k → M.1 b j = μm.1 b j := fun b j hj => by rw [hM, sI_sl hj, sI_sl hj, sI_sl hj]
              have n3 : Mf M (10 * l + k) f := by
                obtain ⟨p0, p1, p2, p3, p4, p5, p6, p7⟩ := mf0
                rw [hfe, hM]
                refine ⟨?_, ?_, ?_, ?_, ?_, ?_, ?_, ?_⟩
                · rw [sI_pl (by decide), sI_pl (by decide), sI_pl (by decide)]; exact p0
                · rw [sI_pl (by decide), sI_pl (by decide), sI_same]
                · rw [sI_pl (by decide), sI_pl (by decide), sI_pl (by decide)]; exact p2
                · rw [sI_pl (by decide), sI_pl (by decide), sI_pl (by decide)]; exact p3
                · rw [sI_pl (by decide), sI_same]
                · rw [sI_same]
                · rw [sI_pl (by decide), sI_pl (by decide), sI_pl (by decide)]; exact p6
                · rw [sI_pl (by decide), sI_pl (by decide), sI_pl (by decide)]; exact p7
              rw [← hM]
              have hcM : μ3.1 = μ1.1 := m3.1.trans z2
              refine ⟨1, μ3, M, rfl, rfl, updL σ l G, WF_updL hw hL wfG (by rw [hG]) (by rw [hG]) (by rw [hG]) (by rw [hG]), ?_, ?_⟩
              · have e : ∀ b, b ≠ 11 + 15 * l + 5 + k → μ3.1 b = μc.1 b := fun b hb => by rw [hcM, b2 b hb]
                have ex2 : ∀ b, b ≠ 11 + 15 * l + 3 → μ3.2 b = μc.2 b := fun b hb => by rw [m3.2.1 b hb, z3 b hb, b3]
                have ea3 := e (11 + 15 * l) (by omega)
                refine RC_updL hw hc hl (fun b hb => e b (by omega)) (fun b hb => ex2 b (by omega)) ⟨?_, ?_, ?_, ?_, ?_, ?_, ?_, ?_, fun j f2 hj => Cf_of (by rw [m3.1]) (hcf j f2 hj), fun i2 y2 x2 hi2 hy2 hx2 => ?_⟩ (e _ (by omega)) (ex2 _ (by omega)) ⟨g, hL⟩
                · rw [ea3]; exact c0
                · rw [ea3, hG]; exact c1
                · rw [ea3, hG]; exact c2
                · rw [ea3, hG]; exact c3
                · rw [ea3, hG]; exact c4
                · rw [ea3, hG]; exact c5
                · rw [ea3, hG]; exact c6
                · rw [ea3, hGF, hfl2, c7, hlen]
                · have hgl := wfG.2.2.2.1
                  have hGn := wfG.2.1
                  have hwr := wdt_rng wfG (show i2 < 12 by omega)
                  rw [m3.2.2 i2 y2 x2 (by omega) (by omega) (by omega), z4 _ (by omega), bit_0, Bool.false_or, List.any_eq_true]
                  constructor
                  · rintro ⟨f2, h1, h2⟩; exact ⟨f2, h1, (PO_cov hx2 hy2).mp h2⟩
                  · rintro ⟨f2, h1, h2⟩; exact ⟨f2, h1, (PO_cov hx2 hy2).mpr h2⟩
              · refine RM_updL hw hm hl (fun b hb => n1 b (by omega)) (fun b j hb hb2 _ hj => by rw [n1 b (by omega)]) (fun b j i2 hb hb2 hj3 hj hi2 => n2 b _ (by omega)) ⟨?_, ?_, ?_, ?_, ?_, ?_, ?_, fun j f2 hj => ?_⟩
                · rw [n1 1 (by omega), hG]; exact g1
                · rw [n1 2 (by omega), hG]; exact g2
                · rw [n1 3 (by omega), hG]; exact g3
                · rw [n1 4 (by omega), hG]; exact g4
                · rw [n1 5 (by omega), hG]; exact g5
                · rw [n1 6 (by omega), hG]; exact g6
                · rw [n1 7 (by omega), hGF, hfl2, g7, hlen]
                · rw [hGF] at hj
                  by_cases hjk : j = k
                  · subst hjk
                    rw [hkk, List.getElem?_concat_length] at hj
                    cases hj
                    exact n3
                  · have hj3 : j < (fs ++ [f]).length := (List.getElem?_eq_some_iff.mp hj).1
                    rw [List.getElem?_append_left (by omega)] at hj
                    have H := g8 j f2 (by rw [hfs, List.getElem?_append_left (by omega)]; exact hj)
                    unfold Mf at H ⊢
                    rw [n2 8 _ (by omega), n2 9 _ (by omega), n2 10 _ (by omega), n2 11 _ (by omega), n2 12 _ (by omega), n2 13 _ (by omega), n2 14 _ (by omega), n2 15 _ (by omega)]
                    exact H
            · rw [if_neg (nI_ge (by omega) (by omega)), if_neg (nI_ge (by omega) (by omega)), bd_some, if_pos rfl]
              exact Both.keep S _ rfl rfl
          · rw [b01_f h4, if_pos rfl, if_pos rfl]; exact Both.keep S _ rfl rfl
        · rw [b01_f h3, if_pos rfl, if_pos rfl]; exact Both.keep S _ rfl rfl
    · rw [b01_f (fun q => hi ((leafIx (by omega)).mp q)), if_pos rfl, isLeaf_out hm.1 hg hl hL hi, bd_some, if_pos rfl]
      exact Both.keep S _ rfl rfl
  · rw [logAt_none hc.1 hn, isLeaf_none hm.1 hn, bd_some, bd_some]
    exact Both.keep S 0 rfl rfl
