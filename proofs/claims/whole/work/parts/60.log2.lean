/-! the step of log, both sides -/
theorem begin_eq {μ : Mem} {a : Nat} {v1 v2 v3 v4 : Int32} : ∃ r, f_X4_begin a v1 v2 v3 v4 μ = some r ∧ (∀ b, b ≠ a → b ≠ a + 1 → r.1 b = μ.1 b) ∧ (∀ b, b ≠ a + 3 → b ≠ a + 4 → r.2 b = μ.2 b) ∧ (r.1 a 0 = 1 ∧ r.1 a 1 = v1 ∧ r.1 a 2 = v2 ∧ r.1 a 6 = v3 ∧ r.1 a 7 = v4 ∧ r.1 a 3 = 0 ∧ r.1 a 4 = 0 ∧ r.1 a 8 = 0) ∧ (∀ q, q < 12 → r.1 (a + 1) q = 0) ∧ (∀ q, q < 720 → r.2 (a + 3) q = 0) ∧ (∀ q, q < 720 → r.2 (a + 4) q = 0) := by
  obtain ⟨M, hM⟩ : ∃ M, M = sI (sI (sI (sI (sI (sI (sI (sI μ a 0 1) a 1 v1) a 2 v2) a 6 v3) a 7 v4) a 3 0) a 4 0) a 8 0 := ⟨_, rfl⟩
  have hM1 : ∀ b, b ≠ a → M.1 b = μ.1 b := fun b hb => by rw [hM, sI_pl hb, sI_pl hb, sI_pl hb, sI_pl hb, sI_pl hb, sI_pl hb, sI_pl hb, sI_pl hb]
  have hM2 : M.2 = μ.2 := by rw [hM]; rfl
  obtain ⟨r1, e1, f1, f2, f3⟩ := fillI (n0 := 12) (b := a + 1) (v := 0) (μ := M) (by omega)
  obtain ⟨r2, e2, g1, g2, g3⟩ := fillJ (n0 := 720) (b := a + 3) (v := 0) (μ := r1) (by omega)
  obtain ⟨r3, e3, h1, h2, h3⟩ := fillJ (n0 := 720) (b := a + 4) (v := 0) (μ := r2) (by omega)
  have hr : r3.1 = r1.1 := h1.trans g1
  have ha : r3.1 a = M.1 a := by rw [hr]; exact f2 a (by omega)
  refine ⟨r3, ?_, fun b hb hb2 => ?_, fun b hb hb2 => ?_, ⟨?_, ?_, ?_, ?_, ?_, ?_, ?_, ?_⟩, fun q hq => by rw [hr]; exact f3 q hq, fun q hq => ?_, h3⟩
  · unfold f_X4_begin
    rw [← hM, e1, bi_some, e2, bi_some, e3, bi_some]
  · rw [hr, f2 b hb2, hM1 b hb]
  · rw [h2 b hb2, g2 b hb, f1, hM2]
  · rw [ha, hM]; simp [sI_at]
  · rw [ha, hM]; simp [sI_at]
  · rw [ha, hM]; simp [sI_at]
  · rw [ha, hM]; simp [sI_at]
  · rw [ha, hM]; simp [sI_at]
  · rw [ha, hM]; simp [sI_at]
  · rw [ha, hM]; simp [sI_at]
  · rw [ha, hM]; simp [sI_at]
  · rw [h2 (a + 3) (by omega)]; exact g3 q hq
theorem logC {σ : St} {n l : Nat} {μ : Mem} {N Len W : Nat} {G : Int} (hw : WF n σ) (hc : RC σ μ) (hl : l < 3) (hN : N ≤ 12) (hLen : Len ≤ 60) : ∃ r, ((f_X4_begin (11 + 15 * l) (nI N) (nI Len) (nI W) (iz G) μ).bind (fun μ18 => (f_X8_forgetMadeOf (nI l) μ18).bind (fun μ19 => some ((1 : Int32), μ19)))) = some (1, r) ∧ RC (newL σ l (N, Len, W, G, 0, 0, [])) r := by
  obtain ⟨c1, c2, c3, c4, c5, c6⟩ := hc
  obtain ⟨r1, e1, a1, a2, ⟨b0, b1, b2, b3, b4, b5, b6, b7⟩, a4, a5, a6⟩ := begin_eq (μ := μ) (a := 11 + 15 * l) (v1 := nI N) (v2 := nI Len) (v3 := nI W) (v4 := iz G)
  have hD1 : CD r1 (unD l 0 (σD σ)) := by
    intro k hk
    rw [unD_ge (by omega)]
    exact (CD_of (fun b h1 h2 => a1 b (by omega) (by omega)) c2) k hk
  obtain ⟨r, e2, d1, d2, d3⟩ := forC (K := fun μ8 => some μ8) hl (fun d D q hD hM => (WF_made hw hD hM).1) 8 FU 0 r1 rfl (show 8 < 8192 by omega) hD1
  have e2' : f_X8_forgetMadeOf (nI l) r1 = some r := e2
  refine ⟨r, by rw [e1, bi_some, e2', bi_some], fun k hk => ?_, d1, fun k g hk hL => ?_, ?_, ?_, ?_⟩
  · show match (if k = l then some (N, Len, W, G, 0, 0, []) else σL σ k) with
      | none => r.1 (11 + 15 * k) 0 = 0
      | some g => Cg r (11 + 15 * k) g
    by_cases hkl : k = l
    · rw [if_pos hkl]
      subst hkl
      have ea := d2 (11 + 15 * k) (by omega)
      refine ⟨by rw [ea]; exact b0, by rw [ea]; exact b1, by rw [ea]; exact b2, by rw [ea]; exact b3, by rw [ea]; exact b4, by rw [ea]; exact b5, by rw [ea]; exact b6, by rw [ea]; exact b7, fun j f hj => by simp [gF] at hj, fun i y x hi hy hx => ?_⟩
      have hi2 : i < N := hi
      have hy2 : y < Len := hy
      rw [d3, a5 _ (by omega), bit_0]
      constructor
      · intro h; cases h
      · rintro ⟨f, h1, -⟩; exact absurd h1 List.not_mem_nil
    · rw [if_neg hkl]
      have hq := c1 k hk
      cases hLk : σL σ k with
      | none => rw [hLk] at hq; show r.1 (11 + 15 * k) 0 = 0; rw [d2 _ (by omega), a1 _ (by omega) (by omega)]; exact hq
      | some q =>
        rw [hLk] at hq
        exact Cg_of (WFg_fl (hw.1 k q hLk).2) (fun b h3 h4 => by rw [d2 _ (by omega), a1 b (by omega) (by omega)]) (by rw [d3, a2 _ (by omega) (by omega)]) hq
  · have hL2 : (if k = l then some (N, Len, W, G, 0, 0, []) else σL σ k) = some g := hL
    show (∀ i, i < 12 → r.1 (11 + 15 * k + 1) i = nI (sumM ((σS σ).filter (kp (nI l) (-1))) k i)) ∧ ∀ i y x, i < 12 → y < 60 → x < 64 → (bitL (r.2 (11 + 15 * k + 4) (60 * i + y)) x = true ↔ ∃ s ∈ (σS σ).filter (kp (nI l) (-1)), covS s k i x y)
    have hkeep : ∀ s ∈ (σS σ).filter (kp (nI l) (-1)), tL s ≠ l := fun s hs => by
      obtain ⟨h1, h2⟩ := List.mem_filter.mp hs
      exact (kp_log hl (hw.2.2.1 s h1).1).mp h2
    by_cases hkl : k = l
    · subst hkl
      refine ⟨fun i hi => ?_, fun i y x hi hy hx => ?_⟩
      · rw [d2 _ (by omega), a4 i hi, sumM_none hkeep]; rfl
      · rw [d3, a6 _ (by omega), bit_0]
        constructor
        · intro h; cases h
        · rintro ⟨s, h1, h2⟩; exact absurd h2.1 (hkeep s h1)
    · rw [if_neg hkl] at hL2
      obtain ⟨p1, p2⟩ := c3 k g hk hL2
      refine ⟨fun i hi => ?_, fun i y x hi hy hx => ?_⟩
      · rw [d2 _ (by omega), a1 _ (by omega) (by omega), p1 i hi, sumM_filter (fun s hs hsk => (kp_log hl (hw.2.2.1 s hs).1).mpr (by omega))]
      · rw [d3, a2 _ (by omega) (by omega), p2 i y x hi hy hx]
        constructor
        · rintro ⟨s, h1, h2⟩
          exact ⟨s, List.mem_filter.mpr ⟨h1, (kp_log hl (hw.2.2.1 s h1).1).mpr (by rw [h2.1]; exact hkl)⟩, h2⟩
        · rintro ⟨s, h1, h2⟩
          exact ⟨s, (List.mem_filter.mp h1).1, h2⟩
  · exact CT2_of (by rw [d2 1 (by omega), a1 1 (by omega) (by omega)]) (by rw [d2 2 (by omega), a1 2 (by omega) (by omega)]) c4
  · exact CF_of (by rw [d2 3 (by omega), a1 3 (by omega) (by omega)]) (by rw [d2 3 (by omega), a1 3 (by omega) (by omega)]) c5
  · exact CP_of (by rw [d2 89 (by omega), a1 89 (by omega) (by omega)]) c6
theorem logM {σ : St} {n l : Nat} {μ : Mem} {N Len W : Nat} {G : Int} (hw : WF n σ) (hn : n < 512) (hm : RM σ μ) (hl : l < 3) : ∃ r, ((wI μ 3 1 (nI l) (nI N)).bind (fun μ16 => (wI μ16 3 2 (nI l) (nI Len)).bind (fun μ17 => (wI μ17 3 3 (nI l) (nI W)).bind (fun μ18 => (wI μ18 3 4 (nI l) (iz G)).bind (fun μ19 => (wI μ19 3 5 (nI l) (0 : Int32)).bind (fun μ20 => (wI μ20 3 6 (nI l) (0 : Int32)).bind (fun μ21 => (wI μ21 3 7 (nI l) (0 : Int32)).bind (fun μ22 => (f_X10_goes (nI l) (-1 : Int32) μ22).bind (fun μ23 => f_X10_log_L115 (nI l) (fun μ28 => (some ((1 : Int32), μ28))) FU (0 : Int32) μ23))))))))) = some (1, r) ∧ RM (newL σ l (N, Len, W, G, 0, 0, [])) r := by
  obtain ⟨m1, m2, m3, m4, m5, m6⟩ := hm
  have hlen := hw.2.2.2.2.1
  obtain ⟨M, hM⟩ : ∃ M, M = sI (sI (sI (sI (sI (sI (sI μ 1 l (nI N)) 2 l (nI Len)) 3 l (nI W)) 4 l (iz G)) 5 l 0) 6 l 0) 7 l 0 := ⟨_, rfl⟩
  have hM1 : ∀ b, b = 0 ∨ 8 ≤ b → M.1 b = μ.1 b := fun b hb => by rw [hM, sI_pl (by omega), sI_pl (by omega), sI_pl (by omega), sI_pl (by omega), sI_pl (by omega), sI_pl (by omega), sI_pl (by omega)]
  have hM2 : ∀ b j, j ≠ l → M.1 b j = μ.1 b j := fun b j hj => by rw [hM, sI_sl hj, sI_sl hj, sI_sl hj, sI_sl hj, sI_sl hj, sI_sl hj, sI_sl hj]
  have hS : MS M (σS σ) := MS_of (by rw [hM1 0 (by omega)]) (fun b h1 h2 => hM1 b (by omega)) m3
  obtain ⟨r1, e1, s1, s2, s3⟩ := goes_eq (v1 := nI l) (v2 := -1) hS (by omega)
  have hD1 : MD r1 (unD l 0 (σD σ)) := by
    intro k hk
    rw [unD_ge (by omega)]
    exact (MD_of (fun b h1 h2 => by rw [s2 b (by omega) (by omega), hM1 b (by omega)]) m2) k hk
  obtain ⟨r, e2, d1, d2⟩ := forM (K := fun μ28 => some ((1 : Int32), μ28)) hl (fun d D q hD hM => (WF_made hw hD hM).1) 8 FU 0 r1 rfl (show 8 < 8192 by omega) hD1
  have q1 : ∀ b, 1 ≤ b → b < 16 → r.1 b = M.1 b := fun b h1 h2 => by rw [d2 b (by omega), s2 b h1 (by omega)]
  refine ⟨r, ?_, fun k hk => ?_, d1, MS_of (by rw [d2 0 (by omega)]) (fun b h1 h2 => d2 b (by omega)) s1, ?_, ?_, ?_⟩
  · rw [wI_nI hl (by decide), bi_some, wI_nI hl (by decide), bi_some, wI_nI hl (by decide), bi_some, wI_nI hl (by decide), bi_some, wI_nI hl (by decide), bi_some, wI_nI hl (by decide), bi_some, wI_nI hl (by decide), bi_some, ← hM, e1, bi_some]
    exact e2
  · show match (if k = l then some (N, Len, W, G, 0, 0, []) else σL σ k) with
      | none => r.1 1 k = 0
      | some g => Mg r k g
    by_cases hkl : k = l
    · rw [if_pos hkl]
      subst hkl
      refine ⟨by rw [q1 1 (by omega) (by omega), hM]; simp [sI_at], by rw [q1 2 (by omega) (by omega), hM]; simp [sI_at], by rw [q1 3 (by omega) (by omega), hM]; simp [sI_at], by rw [q1 4 (by omega) (by omega), hM]; simp [sI_at], by rw [q1 5 (by omega) (by omega), hM]; simp [sI_at]; rfl, by rw [q1 6 (by omega) (by omega), hM]; simp [sI_at]; exact iz0, by rw [q1 7 (by omega) (by omega), hM]; simp [sI_at]; rfl, fun j f hj => by simp [gF] at hj⟩
    · rw [if_neg hkl]
      have hq := m1 k hk
      cases hLk : σL σ k with
      | none => rw [hLk] at hq; show r.1 1 k = 0; rw [q1 1 (by omega) (by omega), hM2 1 k hkl]; exact hq
      | some q =>
        rw [hLk] at hq
        exact Mg_pt (WFg_fl (hw.1 k q hLk).2) (fun b h3 h4 => by rw [q1 b (by omega) (by omega), hM2 b k hkl]) (fun b i h3 h4 h5 => by rw [q1 b (by omega) (by omega), hM1 b (by omega)]) hq
  · exact MT_of (by rw [d2 0 (by omega), s3 25 (by omega), hM1 0 (by omega)]) (by rw [d2 24 (by omega), s2 24 (by omega) (by omega), hM1 24 (by omega)]) m4
  · exact MF_of (by rw [d2 0 (by omega), s3 30 (by omega), hM1 0 (by omega)]) (by rw [d2 0 (by omega), s3 31 (by omega), hM1 0 (by omega)]) m5
  · exact MP_of (by rw [d2 0 (by omega), s3 66 (by omega), hM1 0 (by omega)]) (by rw [d2 49 (by omega), s2 49 (by omega) (by omega), hM1 49 (by omega)]) m6
theorem step_log {n : Nat} {μc μm : Mem} (S : Sim n μc μm) (hn : n < 512) (v1 v2 v3 v4 v5 : Int32) : Both n (f_X9_log v1 v2 v3 v4 v5 μc) (f_X10_log v1 v2 v3 v4 v5 μm) := by
  obtain ⟨σ, hw, hc, hm⟩ := S
  have S : Sim n μc μm := ⟨σ, hw, hc, hm⟩
  unfold f_X9_log f_X10_log
  rw [isFrom_eq, isIn_eq, bd_some, bd_some]
  by_cases h1 : (0 : Int32) ≤ v1 ∧ v1 ≤ 2
  · rw [b01_t h1, if_neg (by decide), if_neg (by decide), isFrom_eq, isIn_eq, bd_some, bd_some]
    by_cases h2 : (1 : Int32) ≤ v2 ∧ v2 ≤ 12
    · rw [b01_t h2, if_neg (by decide), if_neg (by decide), isFrom_eq, isIn_eq, bd_some, bd_some]
      by_cases h3 : (10 : Int32) ≤ v3 ∧ v3 ≤ 60
      · rw [b01_t h3, if_neg (by decide), if_neg (by decide), isFrom_eq, isIn_eq, bd_some, bd_some]
        by_cases h4 : (10 : Int32) ≤ v4 ∧ v4 ≤ 40
        · rw [b01_t h4, if_neg (by decide), if_neg (by decide), isFrom_eq, isIn_eq, bd_some, bd_some]
          by_cases h5 : (-2 : Int32) ≤ v5 ∧ v5 ≤ 2
          · rw [b01_t h5, if_neg (by decide), if_neg (by decide)]
            obtain ⟨l, hl, rfl⟩ := btw_nI (n := 3) (by decide) (by decide) h1.1 h1.2
            obtain ⟨N, a1, a2, rfl⟩ := nat_rng (a := 1) (b := 12) (by omega) h2.1 h2.2 (by omega)
            obtain ⟨Len, b1, b2, rfl⟩ := nat_rng (a := 10) (b := 60) (by omega) h3.1 h3.2 (by omega)
            obtain ⟨W, c1, c2, rfl⟩ := nat_rng (a := 10) (b := 40) (by omega) h4.1 h4.2 (by omega)
            obtain ⟨r1, r2⟩ := rng_iz (a := -2) (b := 2) h5.1 h5.2 (by omega) (by omega) (by omega) (by omega)
            obtain ⟨G, hG⟩ : ∃ z, z = v5.toInt := ⟨_, rfl⟩
            have eG : v5 = iz G := by rw [hG, iz_of]
            rw [← hG] at r1 r2
            rw [eG, rR_nI hl (by decide), bi_some]
            obtain ⟨rc, ec, hrc⟩ := logC (N := N) (Len := Len) (W := W) (G := G) hw hc hl a2 b2
            obtain ⟨rm, em, hrm⟩ := logM (N := N) (Len := Len) (W := W) (G := G) hw hn hm hl
            exact ⟨1, rc, rm, ec, em, _, WF_newL hw hl ⟨a1, a2, b1, b2, c1, c2, r1, r2, Nat.zero_le _, show (-5 : Int) ≤ 0 by decide, show (0 : Int) ≤ 5 by decide, Nat.zero_le _, fun f hf => absurd hf List.not_mem_nil⟩, hrc, hrm⟩
          · rw [b01_f h5, if_pos rfl, if_pos rfl]; exact Both.keep S _ rfl rfl
        · rw [b01_f h4, if_pos rfl, if_pos rfl]; exact Both.keep S _ rfl rfl
      · rw [b01_f h3, if_pos rfl, if_pos rfl]; exact Both.keep S _ rfl rfl
    · rw [b01_f h2, if_pos rfl, if_pos rfl]; exact Both.keep S _ rfl rfl
  · rw [b01_f h1, if_pos rfl, if_pos rfl]; exact Both.keep S _ rfl rfl
