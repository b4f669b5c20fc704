/-! door: the machine opens, and closes what was opened -/
theorem ne_b {b c : Nat} (hb : b ≤ 1000) (hc : c ≤ 1000) (h : b ≠ c) : ¬ nI b = nI c := by
  rw [iz_nat, iz_nat, iz_eq (by omega) (by omega) (by omega) (by omega)]; omega
theorem pa_t {μ : Mem} {T : List Nat} {p j o b : Nat} (ho : o ≤ 6) (hI : MI μ T p j o) (hp : p ≤ T.length) (hb : b = bq T (nx T p)) (hd : b = 33 ∨ b = 126) : ∃ r, f_X10_parts μ = some (0, r) ∧ fD μ r ∧ (o = 6 → r.1 0 28 = 1 ∧ r.1 0 29 = nI (nx T p)) ∧ (o < 6 → MI r T (nx T p + 1) j (o + 1) ∧ r.1 35 o = nI b ∧ ∀ J1 J2, loF μ r J1 J2 o) := by
  obtain ⟨ht, h28, h26, h44, h45⟩ := hI
  have hbr := ht.2.2.2
  obtain ⟨r1, e1, k1, f1⟩ := nextM ht h26 hp
  have hn2 := nx_le hp
  have bv : byv T (nx T p) = nI b := (byv_eq hbr (by omega)).mpr hb.symm
  have e : f_X10_parts μ = (f_X10_opens (nI b) (0 : Int32) (r1.1 0 26) (r1.1 0 26) r1).bind (fun μ9 => (some ((0 : Int32), (sI μ9 0 26 ((μ9.1 0 26) + (1 : Int32)))))) := by
    unfold f_X10_parts
    rw [e1, bd_some, bv]
    have n40 : ¬ nI b = (40 : Int32) := ne_b (c := 40) (by omega) (by decide) (by omega)
    rcases hd with h | h
    · rw [h, if_pos (by decide), if_neg (by decide), if_pos (by decide)]
    · rw [h, if_neg (by decide), if_pos (by decide), if_neg (by decide), if_neg (by decide), if_pos (by decide)]
  rw [e, k1, opensM ho (by rw [f1.2 45 (by decide)]; exact h45) (by rw [f1.2 28 (by decide)]; exact h28), bi_some]
  have fr4 := fD_O f1 (by omega)
  by_cases h6 : o = 6
  · rw [if_pos h6]
    refine ⟨_, rfl, fD.tr fr4 (fD.tr fD_bad (fD_s (by omega))), fun _ => ⟨?_, ?_⟩, fun h => by omega⟩
    · rw [sI_sl (by decide), bad_at.1]
    · rw [sI_sl (by decide), bad_at.2]
  · rw [if_neg h6]
    obtain ⟨a1, a2, a3, a4, a5⟩ := psh_at (μ := r1) (o := o) (v1 := nI b) (v2 := 0) (v4 := nI (nx T p))
    rw [a5 26 (by decide), k1, nI_s]
    have fr5 := fD.tr fr4 (fD.tr (fD_psh (μ := r1) (o := o) (v1 := nI b) (v2 := 0) (v4 := nI (nx T p))) (fD_s (j := 26) (v := nI (nx T p + 1)) (by omega)))
    refine ⟨_, rfl, fr5, fun h => by omega, fun _ => ⟨⟨tpM_D ht fr5, ?_, sI_same _ _ _ _, ?_, ?_⟩, by rw [sI_pl (by decide)]; exact a1, fun J1 J2 => loF.tr (loF_O f1) (loF.tr loF_psh loF_s)⟩⟩
    · rw [sI_sl (by decide), a5 28 (by decide), f1.2 28 (by decide)]; exact h28
    · rw [sI_sl (by decide), a5 44 (by decide), f1.2 44 (by decide)]; exact h44
    · rw [sI_sl (by decide)]; exact a4
theorem beginsM {μ : Mem} {j : Nat} (hj : j < 8) (h44 : μ.1 0 44 = nI j) : f_X10_begins μ = some (sI (sI (sI (sI μ 27 j 0) 30 j 0) 33 j (-1)) 34 j (-1)) := by
  unfold f_X10_begins
  rw [h44, wI_nI hj (by decide), bi_some, sI_pl (show (0 : Nat) ≠ 27 by decide), h44, wI_nI hj (by decide), bi_some, sI_pl (show (0 : Nat) ≠ 30 by decide), sI_pl (show (0 : Nat) ≠ 27 by decide), h44, wI_nI hj (by decide), bi_some, sI_pl (show (0 : Nat) ≠ 33 by decide), sI_pl (show (0 : Nat) ≠ 30 by decide), sI_pl (show (0 : Nat) ≠ 27 by decide), h44, wI_nI hj (by decide), bi_some]
theorem pa_b {μ : Mem} {T : List Nat} {p j o b : Nat} (ho : o ≤ 6) (hjo : j ≤ o) (hI : MI μ T p j o) (hp : p ≤ T.length) (hb : b = bq T (nx T p)) (hd : b = 40) : ∃ r, f_X10_parts μ = some (0, r) ∧ fD μ r ∧ (o = 6 → r.1 0 28 = 1 ∧ r.1 0 29 = nI (nx T p)) ∧ (o < 6 → MI r T (nx T p + 1) (j + 1) (o + 1) ∧ r.1 35 o = nI 40 ∧ r.1 27 (j + 1) = 0 ∧ r.1 30 (j + 1) = 0 ∧ loF μ r (j + 1) (j + 1) o) := by
  obtain ⟨ht, h28, h26, h44, h45⟩ := hI
  have hbr := ht.2.2.2
  obtain ⟨r1, e1, k1, f1⟩ := nextM ht h26 hp
  have hn2 := nx_le hp
  have bv : byv T (nx T p) = nI b := (byv_eq hbr (by omega)).mpr hb.symm
  have e : f_X10_parts μ = (f_X10_opens (nI b) (0 : Int32) (r1.1 0 26) (r1.1 0 26) r1).bind (fun μ5 => (if ((sI μ5 0 26 ((μ5.1 0 26) + (1 : Int32))).1 0 28) = 0 then (f_X10_begins (sI (sI μ5 0 26 ((μ5.1 0 26) + (1 : Int32))) 0 44 (((sI μ5 0 26 ((μ5.1 0 26) + (1 : Int32))).1 0 44) + (1 : Int32)))).bind (fun μ7 => (some ((0 : Int32), μ7))) else (some ((0 : Int32), (sI μ5 0 26 ((μ5.1 0 26) + (1 : Int32))))))) := by
    unfold f_X10_parts
    rw [e1, bd_some, bv, hd, if_pos (by decide), if_pos (by decide)]
  rw [e, k1, opensM ho (by rw [f1.2 45 (by decide)]; exact h45) (by rw [f1.2 28 (by decide)]; exact h28), bi_some]
  have fr4 := fD_O f1 (by omega)
  by_cases h6 : o = 6
  · rw [if_pos h6]
    have hn : ¬ (sI (bad r1 1 (nI (nx T p))) 0 26 ((bad r1 1 (nI (nx T p))).1 0 26 + 1)).1 0 28 = 0 := by rw [sI_sl (by decide), bad_at.1]; decide
    rw [if_neg hn]
    refine ⟨_, rfl, fD.tr fr4 (fD.tr fD_bad (fD_s (by omega))), fun _ => ⟨?_, ?_⟩, fun h => by omega⟩
    · rw [sI_sl (by decide), bad_at.1]
    · rw [sI_sl (by decide), bad_at.2]
  · rw [if_neg h6]
    obtain ⟨a1, a2, a3, a4, a5⟩ := psh_at (μ := r1) (o := o) (v1 := nI b) (v2 := 0) (v4 := nI (nx T p))
    have n28 : (sI (psh r1 o (nI b) 0 (nI (nx T p))) 0 26 ((psh r1 o (nI b) 0 (nI (nx T p))).1 0 26 + 1)).1 0 28 = 0 := by rw [sI_sl (by decide), a5 28 (by decide), f1.2 28 (by decide)]; exact h28
    rw [if_pos n28, sI_sl (show (44 : Nat) ≠ 26 by decide), a5 44 (by decide), f1.2 44 (by decide), h44, a5 26 (by decide), k1, nI_s, nI_s]
    obtain ⟨N, hN⟩ : ∃ N, N = sI (sI (psh r1 o (nI b) 0 (nI (nx T p))) 0 26 (nI (nx T p + 1))) 0 44 (nI (j + 1)) := ⟨_, rfl⟩
    rw [← hN]
    have n0 : ∀ i, i ≠ 26 → i ≠ 44 → N.1 0 i = (psh r1 o (nI b) 0 (nI (nx T p))).1 0 i := fun i h1 h2 => by rw [hN, sI_sl h2, sI_sl h1]
    have n26 : N.1 0 26 = nI (nx T p + 1) := by rw [hN, sI_sl (by decide), sI_same]
    have n44 : N.1 0 44 = nI (j + 1) := by rw [hN, sI_same]
    have nb : ∀ b', b' ≠ 0 → N.1 b' = (psh r1 o (nI b) 0 (nI (nx T p))).1 b' := fun b' h1 => by rw [hN, sI_pl h1, sI_pl h1]
    have fN : fD μ N := by rw [hN]; exact fD.tr fr4 (fD.tr fD_psh (fD.tr (fD_s (by omega)) (fD_s (by omega))))
    have lN : loF μ N (j + 1) (j + 1) o := by rw [hN]; exact loF.tr (loF_O f1) (loF.tr loF_psh (loF.tr loF_s loF_s))
    rw [beginsM (by omega) n44, bi_some]
    have fr5 : fD μ (sI (sI (sI (sI N 27 (j + 1) 0) 30 (j + 1) 0) 33 (j + 1) (-1)) 34 (j + 1) (-1)) := fD.tr fN (fD.tr (fD_a (by decide) (by decide)) (fD.tr (fD_a (by decide) (by decide)) (fD.tr (fD_a (by decide) (by decide)) (fD_a (by decide) (by decide)))))
    have p0 : ∀ i, (sI (sI (sI (sI N 27 (j + 1) 0) 30 (j + 1) 0) 33 (j + 1) (-1)) 34 (j + 1) (-1)).1 0 i = N.1 0 i := fun i => by rw [sI_pl (by decide), sI_pl (by decide), sI_pl (by decide), sI_pl (by decide)]
    refine ⟨_, rfl, fr5, fun h => by omega, fun _ => ⟨⟨tpM_D ht fr5, ?_, ?_, ?_, ?_⟩, ?_, ?_, ?_, loF.tr lN ⟨fun c hc i hi => ?_, fun i hi => ?_, fun c hc i hi => ?_, fun i hi => ?_, fun c hc i hi => ?_, p0 29⟩⟩⟩
    · rw [p0, n0 28 (by decide) (by decide), a5 28 (by decide), f1.2 28 (by decide)]; exact h28
    · rw [p0]; exact n26
    · rw [p0]; exact n44
    · rw [p0, n0 45 (by decide) (by decide)]; exact a4
    · rw [sI_pl (by decide), sI_pl (by decide), sI_pl (by decide), sI_pl (by decide), nb 35 (by decide), a1, hd]
    · rw [sI_pl (by decide), sI_pl (by decide), sI_pl (by decide), sI_same]
    · rw [sI_pl (by decide), sI_pl (by decide), sI_same]
    · rw [sI_sl (by omega), sI_sl (by omega), sI_sl (by omega), sI_sl (by omega)]
    · rw [sI_pl (by omega), sI_pl (by omega), sI_pl (by omega), sI_pl (by omega)]
    · rw [sI_sl (by omega), sI_sl (by omega), sI_sl (by omega), sI_sl (by omega)]
    · rw [sI_pl (by omega), sI_pl (by omega), sI_pl (by omega), sI_pl (by omega)]
    · rw [sI_pl (by omega), sI_pl (by omega), sI_pl (by omega), sI_pl (by omega)]
theorem pa_f {μ : Mem} {T : List Nat} {p j o b : Nat} (hI : MI μ T p j o) (hp : p ≤ T.length) (hb : b = bq T (nx T p)) (hd : ¬ (48 ≤ b ∧ b ≤ 57)) (h40 : b ≠ 40) (h33 : b ≠ 33) (h126 : b ≠ 126) : ∃ r, f_X10_parts μ = some (0, r) ∧ fD μ r ∧ r.1 0 28 = 1 ∧ r.1 0 29 = nI (nx T p) := by
  obtain ⟨ht, h28, h26, h44, h45⟩ := hI
  have hbr := ht.2.2.2
  obtain ⟨r1, e1, k1, f1⟩ := nextM ht h26 hp
  have k28 : r1.1 0 28 = 0 := by rw [f1.2 28 (by decide)]; exact h28
  have n40 : ¬ byv T (nx T p) = (40 : Int32) := fun z => h40 (by rw [hb]; exact (byv_eq (c := 40) hbr (by decide)).mp z)
  have n33 : ¬ byv T (nx T p) = (33 : Int32) := fun z => h33 (by rw [hb]; exact (byv_eq (c := 33) hbr (by decide)).mp z)
  have n126 : ¬ byv T (nx T p) = (126 : Int32) := fun z => h126 (by rw [hb]; exact (byv_eq (c := 126) hbr (by decide)).mp z)
  have nd : ¬ ((48 : Int32) ≤ byv T (nx T p) ∧ byv T (nx T p) ≤ (57 : Int32)) := fun z => hd (by rw [hb]; exact (byv_rng (a := 48) (b := 57) hbr (by decide) (by decide)).mp z)
  have e : f_X10_parts μ = (f_X10_fail (1 : Int32) (r1.1 0 26) r1).bind (fun μ12 => (some ((0 : Int32), μ12))) := by
    unfold f_X10_parts
    rw [e1, bd_some]
    by_cases c1 : byv T (nx T p) < (48 : Int32)
    · rw [if_pos c1, if_neg n40, if_neg n33, if_neg n126]
    · have c2 : (57 : Int32) < byv T (nx T p) := Int32.not_le.mp (fun z => nd ⟨Int32.not_lt.mp c1, z⟩)
      rw [if_neg c1, if_pos c2, if_neg n40, if_neg n33, if_neg n126]
  rw [e, failM k28, bi_some, k1]
  exact ⟨bad r1 1 (nI (nx T p)), rfl, fD.tr (fD_O f1 (by omega)) fD_bad, bad_at.1, bad_at.2⟩
-- what was opened is closed
theorem cl_lvl {μ : Mem} {o m : Nat} (ho : o ≤ 6) (h28 : μ.1 0 28 = 0) (h45 : μ.1 0 45 = nI o) (h : o = 0 ∨ μ.1 35 (o - 1) = nI 40) : f_X10_comes_L0 cmK (m + 1) μ = cmK μ := by
  rw [f_X10_comes_L0, if_pos h28, h45]
  rcases h with h | h
  · rw [h, if_pos (by decide)]
  · by_cases h0 : o = 0
    · rw [h0, if_pos (by decide)]
    · have hp : ¬ nI o ≤ 0 := by rw [iz0, iz_nat, iz_le (by omega) (by omega) (by omega) (by omega)]; omega
      have e1 : nI o - 1 = nI (o - 1) := by rw [iz_nat, show (1 : Int32) = iz 1 by decide, iz_sub, iz_nat]; exact congrArg iz (by omega)
      rw [if_neg hp, e1, rI_nI (by omega) (by decide), bi_some, h, if_pos (by decide)]
theorem cl_bad {μ : Mem} {m : Nat} (h28 : ¬ μ.1 0 28 = 0) : f_X10_comes_L0 cmK (m + 1) μ = some μ := by
  rw [f_X10_comes_L0, if_neg h28]
  unfold cmK
  rw [if_neg h28]
theorem cl_pop {μ : Mem} {o m : Nat} {v : Int32} (ho : o < 6) (h28 : μ.1 0 28 = 0) (h45 : μ.1 0 45 = nI (o + 1)) (h35 : μ.1 35 o = v) (hv : ¬ v = 40) : f_X10_comes_L0 cmK (m + 1) μ = (if v = 120 then (f_X10_repeats (μ.1 36 o) (μ.1 37 o) (sI μ 0 45 (nI o))).bind (fun μ9 => f_X10_comes_L0 cmK m μ9) else (if v = 126 then (f_X10_turns (1 : Int32) (1 : Int32) (sI μ 0 45 (nI o))).bind (fun μ12 => f_X10_comes_L0 cmK m μ12) else (f_X10_turns (1 : Int32) (0 : Int32) (sI μ 0 45 (nI o))).bind (fun μ13 => f_X10_comes_L0 cmK m μ13))) := by
  have hp : ¬ nI (o + 1) ≤ 0 := by rw [iz0, iz_nat, iz_le (by omega) (by omega) (by omega) (by omega)]; omega
  have e1 : nI (o + 1) - 1 = nI o := by rw [iz_nat, show (1 : Int32) = iz 1 by decide, iz_sub, iz_nat]; exact congrArg iz (by omega)
  rw [f_X10_comes_L0, if_pos h28, h45, if_neg hp, e1, rI_nI (by omega) (by decide), bi_some, h35, if_neg hv, sI_same, rI_nI (by omega) (by decide), bi_some, sI_pl (show (35 : Nat) ≠ 0 by decide), h35]
  by_cases h1 : v = 120
  · rw [if_pos h1, if_pos h1, rI_nI (by omega) (by decide), bi_some, rI_nI (by omega) (by decide), bi_some, sI_pl (show (36 : Nat) ≠ 0 by decide), sI_pl (show (37 : Nat) ≠ 0 by decide)]
  · rw [if_neg h1, if_neg h1, bi_some]
