/-! door: the model's machine meets a part -/
def fD (μ r : Mem) : Prop := scM μ r ∧ r.1 0 27 = μ.1 0 27
theorem fD.rf {μ : Mem} : fD μ μ := ⟨scM.rf, rfl⟩
theorem fD.tr {a b c : Mem} (h1 : fD a b) (h2 : fD b c) : fD a c := ⟨scM.tr h1.1 h2.1, h2.2.trans h1.2⟩
def loF (μ r : Mem) (J1 J2 O : Nat) : Prop := (∀ b, (b = 27 ∨ b = 28 ∨ b = 33) → ∀ i, i < J1 → r.1 b i = μ.1 b i) ∧ (∀ i, i < 64 * J1 → r.1 29 i = μ.1 29 i) ∧ (∀ b, (b = 30 ∨ b = 31 ∨ b = 34) → ∀ i, i < J2 → r.1 b i = μ.1 b i) ∧ (∀ i, i < 64 * J2 → r.1 32 i = μ.1 32 i) ∧ (∀ b, (b = 35 ∨ b = 36 ∨ b = 37) → ∀ i, i < O → r.1 b i = μ.1 b i) ∧ r.1 0 29 = μ.1 0 29
theorem loF.rf {μ : Mem} {J1 J2 O : Nat} : loF μ μ J1 J2 O := ⟨fun _ _ _ _ => rfl, fun _ _ => rfl, fun _ _ _ _ => rfl, fun _ _ => rfl, fun _ _ _ _ => rfl, rfl⟩
theorem loF.tr {a b c : Mem} {J1 J2 O : Nat} (h1 : loF a b J1 J2 O) (h2 : loF b c J1 J2 O) : loF a c J1 J2 O := ⟨fun q p i hi => (h2.1 q p i hi).trans (h1.1 q p i hi), fun i hi => (h2.2.1 i hi).trans (h1.2.1 i hi), fun q p i hi => (h2.2.2.1 q p i hi).trans (h1.2.2.1 q p i hi), fun i hi => (h2.2.2.2.1 i hi).trans (h1.2.2.2.1 i hi), fun q p i hi => (h2.2.2.2.2.1 q p i hi).trans (h1.2.2.2.2.1 q p i hi), h2.2.2.2.2.2.trans h1.2.2.2.2.2⟩
theorem loF.mono {μ r : Mem} {J1 J2 O J1' J2' O' : Nat} (h : loF μ r J1 J2 O) (h1 : J1' ≤ J1) (h2 : J2' ≤ J2) (h3 : O' ≤ O) : loF μ r J1' J2' O' := ⟨fun q p i hi => h.1 q p i (by omega), fun i hi => h.2.1 i (by omega), fun q p i hi => h.2.2.1 q p i (by omega), fun i hi => h.2.2.2.1 i (by omega), fun q p i hi => h.2.2.2.2.1 q p i (by omega), h.2.2.2.2.2⟩
theorem loF_pl {μ r : Mem} {J1 J2 O : Nat} (h : ∀ b, 27 ≤ b → b < 38 → r.1 b = μ.1 b) (h29 : r.1 0 29 = μ.1 0 29) : loF μ r J1 J2 O := ⟨fun b hb i _ => by rw [h b (by omega) (by omega)], fun i _ => by rw [h 29 (by omega) (by omega)], fun b hb i _ => by rw [h b (by omega) (by omega)], fun i _ => by rw [h 32 (by omega) (by omega)], fun b hb i _ => by rw [h b (by omega) (by omega)], h29⟩
def MI (μ : Mem) (T : List Nat) (p j o : Nat) : Prop := tpM μ T ∧ μ.1 0 28 = 0 ∧ μ.1 0 26 = nI p ∧ μ.1 0 44 = nI j ∧ μ.1 0 45 = nI o
theorem tpM_D {μ r : Mem} {T : List Nat} (h : tpM μ T) (f : fD μ r) : tpM r T := tpM_of h f.2 (f.1.1 24 (by decide) (by omega))
/-- only the object's own counters, and the part, change -/
theorem fD_pl {μ r : Mem} (h : ∀ b, 1 ≤ b → (b < 25 ∨ 37 < b) → r.1 b = μ.1 b) (h0 : ∀ i, (i = 15 ∨ i = 25 ∨ i = 27 ∨ i = 30 ∨ i = 31 ∨ i = 66) → r.1 0 i = μ.1 0 i) : fD μ r := ⟨⟨fun b h1 h2 => h b h1 (by omega), fun j hj => h0 j (by omega)⟩, h0 27 (by omega)⟩
theorem fD_O {μ r : Mem} {j : Nat} (h : frO μ r j) (hj : j = 26 ∨ j = 28 ∨ j = 29 ∨ j = 32 ∨ j = 33 ∨ j = 44 ∨ j = 45) : fD μ r := fD_pl (fun b h1 _ => h.1 b (by omega)) (fun i hi => h.2 i (by omega))
theorem loF_O {μ r : Mem} {j J1 J2 O : Nat} (h : frO μ r j) (hj : j ≠ 29 := by decide) : loF μ r J1 J2 O := loF_pl (fun b h1 _ => h.1 b (by omega)) (h.2 29 (fun z => hj z.symm))
theorem fD_s {μ : Mem} {j : Nat} {v : Int32} (hj : j = 26 ∨ j = 28 ∨ j = 29 ∨ j = 32 ∨ j = 33 ∨ j = 44 ∨ j = 45) : fD μ (sI μ 0 j v) := fD_O frO_s hj
theorem loF_s {μ : Mem} {j J1 J2 O : Nat} {v : Int32} (hj : j ≠ 29 := by decide) : loF μ (sI μ 0 j v) J1 J2 O := loF_O frO_s hj
theorem fD_a {μ : Mem} {b i : Nat} {v : Int32} (hb : 25 ≤ b) (hb2 : b < 38) : fD μ (sI μ b i v) := fD_pl (fun c h1 h2 => sI_pl (by omega)) (fun i hi => by rw [sI_pl (by omega)])
theorem fD_bad {μ : Mem} {k p : Int32} : fD μ (bad μ k p) := fD.tr (fD_s (by omega)) (fD_s (by omega))
theorem bad_at {μ : Mem} {k p : Int32} : (bad μ k p).1 0 28 = k ∧ (bad μ k p).1 0 29 = p := by
  unfold bad; exact ⟨by rw [sI_sl (by decide), sI_same], sI_same _ _ _ _⟩
/-- something is opened -/
def psh (μ : Mem) (o : Nat) (v1 v2 v4 : Int32) : Mem := sI (sI (sI (sI μ 35 o v1) 36 o v2) 37 o v4) 0 45 (nI (o + 1))
theorem psh_at {μ : Mem} {o : Nat} {v1 v2 v4 : Int32} : (psh μ o v1 v2 v4).1 35 o = v1 ∧ (psh μ o v1 v2 v4).1 36 o = v2 ∧ (psh μ o v1 v2 v4).1 37 o = v4 ∧ (psh μ o v1 v2 v4).1 0 45 = nI (o + 1) ∧ ∀ i, i ≠ 45 → (psh μ o v1 v2 v4).1 0 i = μ.1 0 i := by
  unfold psh
  refine ⟨?_, ?_, ?_, sI_same _ _ _ _, fun i hi => ?_⟩
  · rw [sI_pl (by decide), sI_pl (by decide), sI_pl (by decide), sI_same]
  · rw [sI_pl (by decide), sI_pl (by decide), sI_same]
  · rw [sI_pl (by decide), sI_same]
  · rw [sI_sl hi, sI_pl (by decide), sI_pl (by decide), sI_pl (by decide)]
theorem fD_psh {μ : Mem} {o : Nat} {v1 v2 v4 : Int32} : fD μ (psh μ o v1 v2 v4) := fD.tr (fD_a (by decide) (by decide)) (fD.tr (fD_a (by decide) (by decide)) (fD.tr (fD_a (by decide) (by decide)) (fD_s (by omega))))
theorem loF_psh {μ : Mem} {o J1 J2 : Nat} {v1 v2 v4 : Int32} : loF μ (psh μ o v1 v2 v4) J1 J2 o := by
  unfold psh
  refine ⟨fun b hb i _ => ?_, fun i _ => ?_, fun b hb i _ => ?_, fun i _ => ?_, fun b hb i hi => ?_, by rw [sI_sl (by decide), sI_pl (by decide), sI_pl (by decide), sI_pl (by decide)]⟩
  · rw [sI_pl (by omega), sI_pl (by omega), sI_pl (by omega), sI_pl (by omega)]
  · rw [sI_pl (by omega), sI_pl (by omega), sI_pl (by omega), sI_pl (by omega)]
  · rw [sI_pl (by omega), sI_pl (by omega), sI_pl (by omega), sI_pl (by omega)]
  · rw [sI_pl (by omega), sI_pl (by omega), sI_pl (by omega), sI_pl (by omega)]
  · rw [sI_pl (by omega), sI_sl (by omega), sI_sl (by omega), sI_sl (by omega)]
theorem opensM {μ : Mem} {o : Nat} {v1 v2 v3 v4 : Int32} (ho : o ≤ 6) (h45 : μ.1 0 45 = nI o) (h28 : μ.1 0 28 = 0) : f_X10_opens v1 v2 v3 v4 μ = some (if o = 6 then bad μ 1 v3 else psh μ o v1 v2 v4) := by
  unfold f_X10_opens
  have c : μ.1 0 45 = (6 : Int32) ↔ o = 6 := by
    rw [h45, show (6 : Int32) = iz 6 by decide, iz_nat, iz_eq (by omega) (by omega) (by omega) (by omega)]; omega
  by_cases h : o = 6
  · rw [if_pos (c.mpr h), if_pos h, failM h28, bi_some]; rfl
  · rw [if_neg (fun z => h (c.mp z)), if_neg h, h45, wI_nI (by omega) (by decide), bi_some, sI_pl (show (0 : Nat) ≠ 35 by decide), h45, wI_nI (by omega) (by decide), bi_some, sI_pl (show (0 : Nat) ≠ 36 by decide), sI_pl (show (0 : Nat) ≠ 35 by decide), h45, wI_nI (by omega) (by decide), bi_some, sI_pl (show (0 : Nat) ≠ 37 by decide), sI_pl (show (0 : Nat) ≠ 36 by decide), sI_pl (show (0 : Nat) ≠ 35 by decide), h45, nI_s]; rfl
/-- what a machine that wants a part does at a byte: a piece, an opening, a refusal -/
theorem pa_dig {μ : Mem} {T : List Nat} {p j o b : Nat} (hI : MI μ T p j o) (hp : p ≤ T.length) (hb : b = bq T (nx T p)) (hd : 48 ≤ b ∧ b ≤ 57) (hx : ¬ (50 ≤ b ∧ bq T (nx T (nx T p + 1)) = 120)) : ∃ r, f_X10_parts μ = some (1, r) ∧ MI r T (if 50 ≤ b then nx T (nx T p + 1) else nx T p + 1) j o ∧ ptM r 1 1 (fun _ _ => b - 48) ∧ fD μ r ∧ ∀ J1 J2 O, loF μ r J1 J2 O := by
  obtain ⟨ht, h28, h26, h44, h45⟩ := hI
  have hbr := ht.2.2.2
  obtain ⟨r1, e1, k1, f1⟩ := nextM ht h26 hp
  have hn2 := nx_le hp
  have hq := bq_lt hb.symm (by omega)
  have bv : byv T (nx T p) = nI b := (byv_eq hbr (by omega)).mpr hb.symm
  have c1 : ¬ nI b < (48 : Int32) := by rw [show (48 : Int32) = iz 48 by decide, iz_nat, iz_lt (by omega) (by omega) (by omega) (by omega)]; omega
  have c2 : ¬ (57 : Int32) < nI b := by rw [show (57 : Int32) = iz 57 by decide, iz_nat, iz_lt (by omega) (by omega) (by omega) (by omega)]; omega
  have e48 : nI b - 48 = nI (b - 48) := by rw [iz_nat, show (48 : Int32) = iz 48 by decide, iz_sub, iz_nat]; exact congrArg iz (by omega)
  have c49 : nI b ≤ (49 : Int32) ↔ b ≤ 49 := by rw [show (49 : Int32) = iz 49 by decide, iz_nat, iz_le (by omega) (by omega) (by omega) (by omega)]; omega
  unfold f_X10_parts
  rw [e1, bd_some, bv, if_neg c1, if_neg c2, k1, nI_s, e48]
  have fin : ∀ (s : Mem) (u : Nat), frO μ s 26 → s.1 0 26 = nI u → ∃ r, (wI (sI (sI s 0 32 (1 : Int32)) 0 33 (1 : Int32)) 64 25 (0 : Int32) (nI (b - 48))).bind (fun μ24 => (some ((1 : Int32), μ24))) = some (1, r) ∧ MI r T u j o ∧ ptM r 1 1 (fun _ _ => b - 48) ∧ fD μ r ∧ ∀ J1 J2 O, loF μ r J1 J2 O := by
    intro s u fs hu
    rw [show (0 : Int32) = nI 0 from rfl, wI_nI (by decide) (by decide), bi_some]
    have k0 : ∀ i, i ≠ 26 → i ≠ 32 → i ≠ 33 → (sI (sI (sI s 0 32 (1 : Int32)) 0 33 (1 : Int32)) 25 0 (nI (b - 48))).1 0 i = μ.1 0 i := fun i h1 h2 h3 => by rw [sI_pl (by decide), sI_sl h3, sI_sl h2, fs.2 i h1]
    have fd : fD μ (sI (sI (sI s 0 32 (1 : Int32)) 0 33 (1 : Int32)) 25 0 (nI (b - 48))) := fD.tr (fD_O fs (by omega)) (fD.tr (fD_s (by omega)) (fD.tr (fD_s (by omega)) (fD_a (by decide) (by decide))))
    refine ⟨_, rfl, ⟨tpM_D ht fd, by rw [k0 28 (by decide) (by decide) (by decide)]; exact h28, by rw [sI_pl (by decide), sI_sl (by decide), sI_sl (by decide)]; exact hu, by rw [k0 44 (by decide) (by decide) (by decide)]; exact h44, by rw [k0 45 (by decide) (by decide) (by decide)]; exact h45⟩, ⟨by rw [sI_pl (by decide), sI_sl (by decide), sI_same]; rfl, by rw [sI_pl (by decide), sI_same]; rfl, fun c t hc ht2 => ?_⟩, fd, fun J1 J2 O => loF_pl (fun c h1 h2 => by rw [sI_pl (by omega), sI_pl (by omega), sI_pl (by omega), fs.1 c (by omega)]) (k0 29 (by decide) (by decide) (by decide))⟩
    rw [show 8 * t + c = 0 by omega, sI_same]
  by_cases h49 : b ≤ 49
  · rw [if_pos (c49.mpr h49), if_neg (by omega)]
    exact fin (sI r1 0 26 (nI (nx T p + 1))) _ (frO.tr f1 frO_s) (sI_same _ _ _ _)
  · rw [if_neg (fun z => h49 (c49.mp z)), if_pos (by omega)]
    have f2 := frO.tr f1 (frO_s (μ := r1) (j := 26) (v := nI (nx T p + 1)))
    obtain ⟨r3, e3, k3, f3⟩ := nextM (T := T) (p := nx T p + 1) (tpM_D ht (fD_O f2 (by omega))) (sI_same _ _ _ _) (by omega)
    have c120 : ¬ byv T (nx T (nx T p + 1)) = (120 : Int32) := fun z => hx ⟨by omega, (byv_eq (c := 120) hbr (by decide)).mp z⟩
    rw [e3, bd_some, if_neg c120]
    exact fin r3 _ (frO.tr f2 f3) k3
theorem pa_x {μ : Mem} {T : List Nat} {p j o b : Nat} (ho : o ≤ 6) (hI : MI μ T p j o) (hp : p ≤ T.length) (hb : b = bq T (nx T p)) (hd : 50 ≤ b ∧ b ≤ 57) (hx : bq T (nx T (nx T p + 1)) = 120) : ∃ r, f_X10_parts μ = some (0, r) ∧ fD μ r ∧ (o = 6 → r.1 0 28 = 1 ∧ r.1 0 29 = nI (nx T p)) ∧ (o < 6 → MI r T (nx T (nx T p + 1) + 1) j (o + 1) ∧ r.1 35 o = 120 ∧ r.1 36 o = nI (b - 48) ∧ r.1 37 o = nI (nx T (nx T p + 1)) ∧ ∀ J1 J2, loF μ r J1 J2 o) := by
  obtain ⟨ht, h28, h26, h44, h45⟩ := hI
  have hbr := ht.2.2.2
  obtain ⟨r1, e1, k1, f1⟩ := nextM ht h26 hp
  have hn2 := nx_le hp
  have hq := bq_lt hb.symm (by omega)
  have bv : byv T (nx T p) = nI b := (byv_eq hbr (by omega)).mpr hb.symm
  have c1 : ¬ nI b < (48 : Int32) := by rw [show (48 : Int32) = iz 48 by decide, iz_nat, iz_lt (by omega) (by omega) (by omega) (by omega)]; omega
  have c2 : ¬ (57 : Int32) < nI b := by rw [show (57 : Int32) = iz 57 by decide, iz_nat, iz_lt (by omega) (by omega) (by omega) (by omega)]; omega
  have e48 : nI b - 48 = nI (b - 48) := by rw [iz_nat, show (48 : Int32) = iz 48 by decide, iz_sub, iz_nat]; exact congrArg iz (by omega)
  have c49 : ¬ nI b ≤ (49 : Int32) := by rw [show (49 : Int32) = iz 49 by decide, iz_nat, iz_le (by omega) (by omega) (by omega) (by omega)]; omega
  have f2 := frO.tr f1 (frO_s (μ := r1) (j := 26) (v := nI (nx T p + 1)))
  obtain ⟨r3, e3, k3, f3⟩ := nextM (T := T) (p := nx T p + 1) (tpM_D ht (fD_O f2 (by omega))) (sI_same _ _ _ _) (by omega)
  have c120 : byv T (nx T (nx T p + 1)) = (120 : Int32) := (byv_eq (c := 120) hbr (by decide)).mpr hx
  have f4 := frO.tr f2 f3
  unfold f_X10_parts
  rw [e1, bd_some, bv, if_neg c1, if_neg c2, k1, nI_s, e48, if_neg c49, e3, bd_some, if_pos c120, k3, opensM ho (by rw [f4.2 45 (by decide)]; exact h45) (by rw [f4.2 28 (by decide)]; exact h28), bi_some]
  have fr4 := fD_O f4 (by omega)
  by_cases h6 : o = 6
  · rw [if_pos h6]
    refine ⟨_, rfl, fD.tr fr4 (fD.tr fD_bad (fD_s (by omega))), fun _ => ⟨?_, ?_⟩, fun h => by omega⟩
    · rw [sI_sl (by decide), bad_at.1]
    · rw [sI_sl (by decide), bad_at.2]
  · rw [if_neg h6]
    obtain ⟨a1, a2, a3, a4, a5⟩ := psh_at (μ := r3) (o := o) (v1 := 120) (v2 := nI (b - 48)) (v4 := nI (nx T (nx T p + 1)))
    rw [a5 26 (by decide), k3, nI_s]
    have fr5 := fD.tr fr4 (fD.tr (fD_psh (μ := r3) (o := o) (v1 := 120) (v2 := nI (b - 48)) (v4 := nI (nx T (nx T p + 1)))) (fD_s (j := 26) (v := nI (nx T (nx T p + 1) + 1)) (by omega)))
    refine ⟨_, rfl, fr5, fun h => by omega, fun _ => ⟨⟨tpM_D ht fr5, ?_, sI_same _ _ _ _, ?_, ?_⟩, by rw [sI_pl (by decide)]; exact a1, by rw [sI_pl (by decide)]; exact a2, by rw [sI_pl (by decide)]; exact a3, fun J1 J2 => loF.tr (loF_O f4) (loF.tr loF_psh loF_s)⟩⟩
    · rw [sI_sl (by decide), a5 28 (by decide), f4.2 28 (by decide)]; exact h28
    · rw [sI_sl (by decide), a5 44 (by decide), f4.2 44 (by decide)]; exact h44
    · rw [sI_sl (by decide)]; exact a4
