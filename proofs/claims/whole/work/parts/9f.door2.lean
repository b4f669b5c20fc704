/-! the step of door: the model, and both -/
theorem doorM {n : Nat} {σ : St} {μ : Mem} {d pw ph tn : Nat} (hw : WF n σ) (hn : n < 512) (hm : RM σ μ) (hd : d < 8) : ∃ r, (f_X10_draws (sI (sI (sI (sI (sI μ 0 26 (0 : Int32)) 0 27 ((sI μ 0 26 (0 : Int32)).1 0 25)) 0 25 (0 : Int32)) 0 28 (0 : Int32)) 0 29 (-1 : Int32))).bind (fun μ13 => (if ((sI (sI μ13 0 30 (μ13.1 0 28)) 0 31 ((sI μ13 0 30 (μ13.1 0 28)).1 0 29)).1 0 28) = 0 then (wI (sI (sI μ13 0 30 (μ13.1 0 28)) 0 31 ((sI μ13 0 30 (μ13.1 0 28)).1 0 29)) 8 38 (nI d) ((sI (sI μ13 0 30 (μ13.1 0 28)) 0 31 ((sI μ13 0 30 (μ13.1 0 28)).1 0 29)).1 0 32)).bind (fun μ15 => (wI μ15 8 39 (nI d) (μ15.1 0 33)).bind (fun μ16 => f_X10_door_L125 (nI d) (nI pw) (nI ph) (nI tn) (fun μ20 => (wI μ20 8 41 (nI d) (nI pw)).bind (fun μ21 => (wI μ21 8 42 (nI d) (nI ph)).bind (fun μ22 => (wI μ22 8 43 (nI d) (nI tn)).bind (fun μ23 => (wI μ23 8 44 (nI d) (-1 : Int32)).bind (fun μ24 => f_X10_door_L189 (nI d) (fun μ29 => (some (((μ29.1 0 32) * (μ29.1 0 33)), μ29))) FU (0 : Int32) μ24))))) FU (0 : Int32) μ16)) else (some ((-1 : Int32), (sI (sI μ13 0 30 (μ13.1 0 28)) 0 31 ((sI μ13 0 30 (μ13.1 0 28)).1 0 29)))))) = (match tapeR (σT σ) with
      | .error _ => some (-1, r)
      | .ok q => some (nI q.2.1 * nI q.2.2.1, r)) ∧ match tapeR (σT σ) with
      | .error e => RM (eSt σ e) r
      | .ok q => RM (dSt σ d (q.2.1, q.2.2.1, q.2.2.2, pw, ph, tn, none)) r := by
  obtain ⟨m1, m2, m3, m4, m5, m6⟩ := hm
  have hgt := gd_tape (T := σT σ)
  obtain ⟨M, hM⟩ : ∃ M, M = sI (sI (sI (sI (sI μ 0 26 (0 : Int32)) 0 27 (μ.1 0 25)) 0 25 (0 : Int32)) 0 28 (0 : Int32)) 0 29 (-1 : Int32) := ⟨_, rfl⟩
  rw [sI_sl (show (25 : Nat) ≠ 26 by decide), ← hM]
  have Mb : ∀ b, b ≠ 0 → M.1 b = μ.1 b := fun b h => by rw [hM, sI_pl h, sI_pl h, sI_pl h, sI_pl h, sI_pl h]
  have M0 : ∀ i, i ≠ 25 → i ≠ 26 → i ≠ 27 → i ≠ 28 → i ≠ 29 → M.1 0 i = μ.1 0 i := fun i h1 h2 h3 h4 h5 => by rw [hM, sI_sl h5, sI_sl h4, sI_sl h1, sI_sl h3, sI_sl h2]
  have M25 : M.1 0 25 = 0 := by rw [hM, sI_sl (by decide), sI_sl (by decide), sI_same]
  have ht : tpM M (σT σ) := ⟨by rw [hM, sI_sl (by decide), sI_sl (by decide), sI_sl (by decide), sI_same]; exact m4.1, fun k b hk => by rw [Mb 24 (by decide)]; exact m4.2 k b hk, hw.2.2.2.2.2.2.1, hw.2.2.2.2.2.2.2.1⟩
  obtain ⟨r, er, fr, hr⟩ := drawsM ht (by rw [hM, sI_sl (by decide), sI_same]) (by rw [hM, sI_same]) (by rw [hM, sI_sl (by decide), sI_sl (by decide), sI_sl (by decide), sI_sl (by decide), sI_same])
  rw [er, bi_some, sI_sl (show (29 : Nat) ≠ 30 by decide)]
  obtain ⟨N, hN⟩ : ∃ N, N = sI (sI r 0 30 (r.1 0 28)) 0 31 (r.1 0 29) := ⟨_, rfl⟩
  rw [← hN]
  have Nb : ∀ b, b ≠ 0 → N.1 b = r.1 b := fun b h => by rw [hN, sI_pl h, sI_pl h]
  have N0 : ∀ i, i ≠ 30 → i ≠ 31 → N.1 0 i = r.1 0 i := fun i h1 h2 => by rw [hN, sI_sl h2, sI_sl h1]
  have N30 : N.1 0 30 = r.1 0 28 := by rw [hN, sI_sl (by decide), sI_same]
  have N31 : N.1 0 31 = r.1 0 29 := by rw [hN, sI_same]
  have k1 : ∀ b, 1 ≤ b → (b < 25 ∨ (37 < b ∧ b < 48) ∨ b = 49) → N.1 b = μ.1 b := fun b h1 h2 => by rw [Nb b (by omega), fr.1.1 b h1 h2, Mb b (by omega)]
  have k15 : N.1 0 15 = μ.1 0 15 := by rw [N0 15 (by decide) (by decide), fr.1.2 15 (by omega), M0 15 (by decide) (by decide) (by decide) (by decide) (by decide)]
  have k66 : N.1 0 66 = μ.1 0 66 := by rw [N0 66 (by decide) (by decide), fr.1.2 66 (by omega), M0 66 (by decide) (by decide) (by decide) (by decide) (by decide)]
  have k25 : N.1 0 25 = 0 := by rw [N0 25 (by decide) (by decide), fr.1.2 25 (by omega)]; exact M25
  cases hs : tapeR (σT σ) with
  | error e =>
    rw [hs] at hr hgt
    simp only at hr hgt ⊢
    have h0 : ¬ N.1 0 28 = 0 := by
      rw [N0 28 (by decide) (by decide), hr.1]
      exact ne_b (c := 0) (by omega) (by decide) (by omega)
    rw [if_neg h0]
    exact ⟨N, rfl, ML_of (fun b h1 h2 => k1 b h1 (by omega)) m1, MD_of (fun b h1 h2 => k1 b (by omega) (by omega)) m2, MS_of k15 (fun b h1 h2 => k1 b (by omega) (by omega)) m3, ⟨by rw [k25]; rfl, fun k b hk => (by cases hk)⟩, ⟨by rw [N30]; exact hr.1, by rw [N31]; exact hr.2⟩, MP_of k66 (k1 49 (by decide) (by omega)) m6⟩
  | ok q =>
    rw [hs] at hr hgt
    simp only at hr hgt ⊢
    obtain ⟨a1, a2, ⟨p1, p2, p3⟩⟩ := hr
    obtain ⟨g3, g4, g5, g6, g7⟩ := hgt
    have N32 : N.1 0 32 = nI q.2.1 := by rw [N0 32 (by decide) (by decide)]; exact p1
    have N33 : N.1 0 33 = nI q.2.2.1 := by rw [N0 33 (by decide) (by decide)]; exact p2
    rw [if_pos (show N.1 0 28 = 0 by rw [N0 28 (by decide) (by decide)]; exact a1), N32, wI_nI hd (by decide), bi_some, sI_pl (show (0 : Nat) ≠ 38 by decide), N33, wI_nI hd (by decide), bi_some]
    obtain ⟨u, eu, u1, u2, u3⟩ := p64_L (d := d) (v2 := nI pw) (v3 := nI ph) (v4 := nI tn) (K := fun μ20 => (wI μ20 8 41 (nI d) (nI pw)).bind (fun μ21 => (wI μ21 8 42 (nI d) (nI ph)).bind (fun μ22 => (wI μ22 8 43 (nI d) (nI tn)).bind (fun μ23 => (wI μ23 8 44 (nI d) (-1 : Int32)).bind (fun μ24 => f_X10_door_L189 (nI d) (fun μ29 => (some (((μ29.1 0 32) * (μ29.1 0 33)), μ29))) FU (0 : Int32) μ24))))) hd 64 FU 0 (sI (sI N 38 d (nI q.2.1)) 39 d (nI q.2.2.1)) rfl (by decide)
    rw [show nI 0 = (0 : Int32) from rfl] at eu
    rw [eu, wI_nI hd (by decide), bi_some, wI_nI hd (by decide), bi_some, wI_nI hd (by decide), bi_some, wI_nI hd (by decide), bi_some]
    obtain ⟨V, hV⟩ : ∃ V, V = sI (sI (sI (sI u 41 d (nI pw)) 42 d (nI ph)) 43 d (nI tn)) 44 d (-1) := ⟨_, rfl⟩
    rw [← hV]
    have Vb : ∀ b, b ≠ 38 → b ≠ 39 → b ≠ 40 → b ≠ 41 → b ≠ 42 → b ≠ 43 → b ≠ 44 → V.1 b = N.1 b := fun b h1 h2 h3 h4 h5 h6 h7 => by rw [hV, sI_pl h7, sI_pl h6, sI_pl h5, sI_pl h4, u1 b h3, sI_pl h2, sI_pl h1]
    have V15 : V.1 0 15 = nI (σS σ).length := by rw [Vb 0 (by decide) (by decide) (by decide) (by decide) (by decide) (by decide) (by decide), k15]; exact m3.1
    have h5 := hw.2.2.2.2.1
    obtain ⟨w, ew, w1, -, w3⟩ := unm_L (d := d) (S := σS σ) (K := fun μ29 => (some (((μ29.1 0 32) * (μ29.1 0 33)), μ29))) hd (fun s hs => (hw.2.2.1 s hs).2.2.2.2.2.2) (by omega) (σS σ).length FU 0 V (by omega) (show (σS σ).length < 8192 by omega) V15 (fun i s _ h2 => by
      rw [Vb 23 (by decide) (by decide) (by decide) (by decide) (by decide) (by decide) (by decide), k1 23 (by decide) (by omega)]
      exact (m3.2 i s h2).2.2.2.2.2.2.2)
    rw [show nI 0 = (0 : Int32) from rfl] at ew
    have z0 : w.1 0 = N.1 0 := by rw [w1 0 (by decide), Vb 0 (by decide) (by decide) (by decide) (by decide) (by decide) (by decide) (by decide)]
    rw [ew, z0, N32, N33]
    have wb : ∀ b, b ≠ 23 → b ≠ 38 → b ≠ 39 → b ≠ 40 → b ≠ 41 → b ≠ 42 → b ≠ 43 → b ≠ 44 → w.1 b = N.1 b := fun b h0 h1 h2 h3 h4 h5 h6 h7 => by rw [w1 b h0, Vb b h1 h2 h3 h4 h5 h6 h7]
    refine ⟨w, rfl, ML_of (fun b h1 h2 => by rw [wb b (by omega) (by omega) (by omega) (by omega) (by omega) (by omega) (by omega) (by omega), k1 b h1 (by omega)]) m1, fun k hk => ?_, ?_, ?_, ?_, ?_⟩
    · show match (if k = d then some (q.2.1, q.2.2.1, q.2.2.2, pw, ph, tn, none) else σD σ k) with
        | none => w.1 38 k = 0 ∧ w.1 44 k = -1
        | some D => Md w k D
      by_cases hkd : k = d
      · rw [if_pos hkd, hkd]
        refine ⟨?_, ?_, fun c t hc2 ht2 => ?_, ?_, ?_, ?_, ?_⟩
        · rw [w1 38 (by decide), hV, sI_pl (by decide), sI_pl (by decide), sI_pl (by decide), sI_pl (by decide), u1 38 (by decide), sI_pl (by decide), sI_same]
        · rw [w1 39 (by decide), hV, sI_pl (by decide), sI_pl (by decide), sI_pl (by decide), sI_pl (by decide), u1 39 (by decide), sI_same]
        · have hc3 : c < q.2.1 := hc2
          have ht3 : t < q.2.2.1 := ht2
          rw [w1 40 (by decide), hV, sI_pl (by decide), sI_pl (by decide), sI_pl (by decide), sI_pl (by decide), Nat.add_assoc, u3 (8 * t + c) (Nat.zero_le _) (by omega), sI_pl (by decide), sI_pl (by decide), Nb 25 (by decide)]
          exact p3 c t hc3 ht3
        · rw [w1 41 (by decide), hV, sI_pl (by decide), sI_pl (by decide), sI_pl (by decide), sI_same]
        · rw [w1 42 (by decide), hV, sI_pl (by decide), sI_pl (by decide), sI_same]
        · rw [w1 43 (by decide), hV, sI_pl (by decide), sI_same]
        · show w.1 44 d = -1
          rw [w1 44 (by decide), hV, sI_same]
      · rw [if_neg hkd]
        have sl : ∀ b, 38 ≤ b → b < 48 → b ≠ 40 → w.1 b k = μ.1 b k := fun b h1 h2 h3 => by
          rw [w1 b (by omega), hV, sI_sl hkd, sI_sl hkd, sI_sl hkd, sI_sl hkd, u1 b h3, sI_sl hkd, sI_sl hkd, k1 b (by omega) (by omega)]
        have H1 := m2 k hk
        cases hDk : σD σ k with
        | none =>
          rw [hDk] at H1
          show w.1 38 k = 0 ∧ w.1 44 k = -1
          rw [sl 38 (by omega) (by omega) (by omega), sl 44 (by omega) (by omega) (by omega)]; exact H1
        | some D =>
          rw [hDk] at H1
          have H2 : Md μ k D := H1
          have wd := (hw.2.1 k D hDk).2
          have wd2 := wd.2.1
          have wd4 := wd.2.2.2.1
          obtain ⟨b1, b2, b3, b4, b5, b6, b7⟩ := H2
          refine ⟨by rw [sl 38 (by omega) (by omega) (by omega)]; exact b1, by rw [sl 39 (by omega) (by omega) (by omega)]; exact b2, fun c t hc2 ht2 => ?_, by rw [sl 41 (by omega) (by omega) (by omega)]; exact b4, by rw [sl 42 (by omega) (by omega) (by omega)]; exact b5, by rw [sl 43 (by omega) (by omega) (by omega)]; exact b6, ?_⟩
          · have hi : 64 * k + 8 * t + c < 64 * d + 0 ∨ 64 * d + 64 ≤ 64 * k + 8 * t + c := by omega
            rw [w1 40 (by decide), hV, sI_pl (by decide), sI_pl (by decide), sI_pl (by decide), sI_pl (by decide), u2 _ hi, sI_pl (by decide), sI_pl (by decide), k1 40 (by decide) (by omega)]
            exact b3 c t hc2 ht2
          · rw [sl 44 (by omega) (by omega) (by omega), sl 45 (by omega) (by omega) (by omega), sl 46 (by omega) (by omega) (by omega), sl 47 (by omega) (by omega) (by omega)]
            exact b7
    · refine ⟨?_, fun k s hk => ?_⟩
      · show w.1 0 15 = nI ((σS σ).map (unS d)).length
        rw [z0, k15, List.length_map]; exact m3.1
      · have hk' : ((σS σ).map (unS d))[k]? = some s := hk
        rw [List.getElem?_map] at hk'
        cases ht2 : (σS σ)[k]? with
        | none => rw [ht2] at hk'; cases hk'
        | some t =>
          rw [ht2] at hk'
          have hs2 : s = unS d t := by
            have : some (unS d t) = some s := hk'
            exact (Option.some.inj this).symm
          subst hs2
          obtain ⟨a1, a2, a3, a4, a5, a6, a7, a8⟩ := unS_eq (d := d) (s := t)
          have H := m3.2 k t ht2
          have eb : ∀ b, 16 ≤ b → b < 23 → w.1 b k = μ.1 b k := fun b h1 h2 => by rw [wb b (by omega) (by omega) (by omega) (by omega) (by omega) (by omega) (by omega) (by omega), k1 b (by omega) (by omega)]
          obtain ⟨b1, b2, b3, b4, b5, b6, b7, b8⟩ := H
          refine ⟨by rw [eb 16 (by omega) (by omega), a1]; exact b1, by rw [eb 17 (by omega) (by omega), a2]; exact b2, by rw [eb 18 (by omega) (by omega), a3]; exact b3, by rw [eb 19 (by omega) (by omega), a4]; exact b4, by rw [eb 20 (by omega) (by omega), a5]; exact b5, by rw [eb 21 (by omega) (by omega), a6]; exact b6, by rw [eb 22 (by omega) (by omega), a7]; exact b7, w3 k t (Nat.zero_le _) ht2⟩
    · exact ⟨by rw [z0, k25]; rfl, fun k b hk => (by cases hk)⟩
    · exact ⟨by rw [z0, N30]; exact a1, by rw [z0, N31]; exact a2⟩
    · exact MP_of (by rw [z0, k66]) (by rw [wb 49 (by decide) (by decide) (by decide) (by decide) (by decide) (by decide) (by decide) (by decide), k1 49 (by decide) (by omega)]) m6
theorem step_door {n : Nat} {μc μm : Mem} (S : Sim n μc μm) (hn5 : n < 512) (v1 v2 v3 v4 : Int32) : Both n (f_X9_door v1 v2 v3 v4 μc) (f_X10_door v1 v2 v3 v4 μm) := by
  obtain ⟨σ, hw, hc, hm⟩ := S
  have S : Sim n μc μm := ⟨σ, hw, hc, hm⟩
  unfold f_X9_door f_X10_door
  rw [isFrom_eq, isIn_eq, bd_some, bd_some]
  by_cases h1 : (0 : Int32) ≤ v1 ∧ v1 ≤ 7
  · rw [b01_t h1, if_neg one0, if_neg one0, isFrom_eq, isIn_eq, bd_some, bd_some]
    by_cases h2 : (1 : Int32) ≤ v2 ∧ v2 ≤ 60
    · rw [b01_t h2, if_neg one0, if_neg one0, isFrom_eq, isIn_eq, bd_some, bd_some]
      by_cases h3 : (1 : Int32) ≤ v3 ∧ v3 ≤ 60
      · rw [b01_t h3, if_neg one0, if_neg one0, isFrom_eq, isIn_eq, bd_some, bd_some]
        by_cases h4 : (0 : Int32) ≤ v4 ∧ v4 ≤ 200
        · rw [b01_t h4, if_neg one0, if_neg one0]
          obtain ⟨d, hd0, hd, rfl⟩ := nat_rng (a := 0) (b := 7) (by omega) h1.1 h1.2 (by omega)
          obtain ⟨pw, hp1, hp2, rfl⟩ := nat_rng (a := 1) (b := 60) (by omega) h2.1 h2.2 (by omega)
          obtain ⟨ph, hq1, hq2, rfl⟩ := nat_rng (a := 1) (b := 60) (by omega) h3.1 h3.2 (by omega)
          obtain ⟨tn, -, ht2, rfl⟩ := nat_rng (a := 0) (b := 200) (by omega) h4.1 h4.2 (by omega)
          obtain ⟨rc, ec, hrc⟩ := doorC hw hc (show d < 8 by omega) ⟨hp1, hp2⟩ ⟨hq1, hq2⟩ ht2
          obtain ⟨rm, em, hrm⟩ := doorM (pw := pw) (ph := ph) (tn := tn) hw hn5 hm (show d < 8 by omega)
          rw [ec, em]
          have hgt := gd_tape (T := σT σ)
          have hT4 := hw.2.2.2.2.2.2.1
          cases hs : tapeR (σT σ) with
          | error e =>
            rw [hs] at hrc hrm hgt
            exact ⟨-1, rc, rm, rfl, rfl, eSt σ e, WF_eSt hw hgt.2.1 (by have := hgt.2.2; omega), hrc, hrm⟩
          | ok q =>
            rw [hs] at hrc hrm hgt
            obtain ⟨g3, g4, g5, g6, g7⟩ := hgt
            have wd : WFd (q.2.1, q.2.2.1, q.2.2.2, pw, ph, tn, none) := ⟨g3, g4, g5, g6, fun c r hc hr => ⟨(g7 c r hc hr).2, (g7 c r hc hr).1⟩, hp1, hp2, hq1, hq2, ht2⟩
            exact ⟨nI q.2.1 * nI q.2.2.1, rc, rm, rfl, rfl, _, WF_dSt hw (show d < 8 by omega) wd rfl, hrc, hrm⟩
        · rw [b01_f h4, if_pos rfl, if_pos rfl]; exact Both.keep S _ rfl rfl
      · rw [b01_f h3, if_pos rfl, if_pos rfl]; exact Both.keep S _ rfl rfl
    · rw [b01_f h2, if_pos rfl, if_pos rfl]; exact Both.keep S _ rfl rfl
  · rw [b01_f h1, if_pos rfl, if_pos rfl]; exact Both.keep S _ rfl rfl
