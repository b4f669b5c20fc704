/-! door: a part comes, a column ends (model) -/
def bad (μ : Mem) (k : Int32) (p : Int32) : Mem := sI (sI μ 0 28 k) 0 29 p
def fcm (μ r : Mem) (j : Nat) : Prop := (∀ b, b ≠ 30 → b ≠ 31 → b ≠ 32 → r.1 b = μ.1 b) ∧ (∀ i, i ≠ j → r.1 30 i = μ.1 30 i ∧ r.1 31 i = μ.1 31 i) ∧ (∀ i, i < 64 * j ∨ 64 * j + 64 ≤ i → r.1 32 i = μ.1 32 i)
theorem fin1 {q : Mem} {j w h h0 : Nat} (hj : j < 8) (h44 : q.1 0 44 = nI j) (h32 : q.1 0 32 = nI w) (h33 : q.1 0 33 = nI h) : (wI q 8 30 (q.1 0 44) (q.1 0 32)).bind (fun μ25 => (wI μ25 8 31 (μ25.1 0 44) (nI h0 + (μ25.1 0 33))).bind (fun μ26 => (some μ26))) = some (sI (sI q 30 j (nI w)) 31 j (nI (h0 + h))) := by
  rw [h44, h32, wI_nI hj (by decide), bi_some, sI_pl (show (0 : Nat) ≠ 30 by decide), h44, h33, nI_add, wI_nI hj (by decide), bi_some]
theorem j64 {j : Nat} : (64 : Int32) * nI j = nI (64 * j) := by rw [show (64 : Int32) = nI 64 from rfl, pk_mul]
theorem cmK_cp {μ : Mem} {j w h h0 : Nat} {f f0 g : Pic} (hj : j < 8) (hw8 : w ≤ 8) (h8 : h0 + h ≤ 8) (h44 : μ.1 0 44 = nI j) (hp : ptM μ w h f) (hc : ∀ c t, c < w → t < h0 → μ.1 32 (64 * j + 8 * t + c) = nI (f0 c t)) (hg : ∀ c t, g c t = if t < h0 then f0 c t else f c (t - h0)) : ∃ r, f_X10_comes_L220 ((64 : Int32) * (μ.1 0 44)) (nI h0) (fun μ24 => (wI μ24 8 30 (μ24.1 0 44) (μ24.1 0 32)).bind (fun μ25 => (wI μ25 8 31 (μ25.1 0 44) (nI h0 + (μ25.1 0 33))).bind (fun μ26 => (some μ26)))) FU (0 : Int32) μ = some r ∧ colM r j w (h0 + h) g ∧ fcm μ r j := by
  obtain ⟨p1, p2, p3⟩ := hp
  obtain ⟨q, e, q1, q2, q3⟩ := cp_out (j := j) (h0 := h0) (w := w) (h := h) (K := fun μ24 => (wI μ24 8 30 (μ24.1 0 44) (μ24.1 0 32)).bind (fun μ25 => (wI μ25 8 31 (μ25.1 0 44) (nI h0 + (μ25.1 0 33))).bind (fun μ26 => (some μ26)))) hj hw8 h8 h FU 0 μ (by omega) (show h < 8192 by omega) p1 p2
  rw [show nI 0 = (0 : Int32) from rfl] at e
  rw [h44, j64, e, fin1 (w := w) (h := h) hj (by rw [q1 0 (by decide)]; exact h44) (by rw [q1 0 (by decide)]; exact p1) (by rw [q1 0 (by decide)]; exact p2)]
  refine ⟨_, rfl, ⟨by rw [sI_pl (by decide), sI_same], sI_same _ _ _ _, fun c t hc2 ht => ?_⟩, fun b h1 h2 h3 => by rw [sI_pl h2, sI_pl h1, q1 b h3], fun i hi => ⟨by rw [sI_sl hi, sI_sl hi, q1 30 (by decide)], by rw [sI_sl hi, sI_sl hi, q1 31 (by decide)]⟩, fun i hi => by rw [sI_pl (by decide), sI_pl (by decide), q2 i (by omega)]⟩
  rw [sI_pl (by decide), sI_pl (by decide), hg]
  by_cases hth : t < h0
  · rw [if_pos hth, q2 _ (by omega)]; exact hc c t hc2 hth
  · rw [if_neg hth]
    have := q3 c (t - h0) (Nat.zero_le _) (by omega) hc2
    rw [show 64 * j + 8 * (h0 + (t - h0)) + c = 64 * j + 8 * t + c by omega] at this
    rw [this]
    exact p3 c (t - h0) hc2 (by omega)
theorem cmK_1 {μ : Mem} {j w h : Nat} {f : Pic} (hj : j < 8) (hw8 : w ≤ 8) (h8 : h ≤ 8) (h28 : μ.1 0 28 = 0) (h44 : μ.1 0 44 = nI j) (hp : ptM μ w h f) (h30 : μ.1 30 j = 0) : ∃ r, cmK μ = some r ∧ colM r j w h f ∧ fcm μ r j := by
  obtain ⟨r, e, r1, r2⟩ := cmK_cp (μ := μ) (j := j) (w := w) (h := h) (h0 := 0) (f := f) (f0 := f) (g := f) hj hw8 (by omega) h44 hp (fun c t _ ht => absurd ht (Nat.not_lt_zero t)) (fun c t => by rw [if_neg (Nat.not_lt_zero t), Nat.sub_zero])
  rw [Nat.zero_add] at r1
  refine ⟨r, ?_, r1, r2⟩
  unfold cmK
  have e30 : rI μ 8 30 (μ.1 0 44) = some 0 := by rw [h44, rI_nI hj (by decide), h30]
  have e8 : (0 : Int32) + μ.1 0 33 ≤ 8 := by
    rw [hp.2.1, show (0 : Int32) = nI 0 from rfl, nI_add, Nat.zero_add]; exact (le8 (by omega)).mpr h8
  rw [if_pos h28, e30, bi_some, if_pos rfl, if_pos e8]
  exact e
theorem cmK_2 {μ : Mem} {j w h w0 h0 : Nat} {f f0 : Pic} (hj : j < 8) (hw8 : w ≤ 8) (hh8 : h ≤ 8) (hw0 : 1 ≤ w0) (hw08 : w0 ≤ 8) (hh0 : 1 ≤ h0) (hh08 : h0 ≤ 8) (h28 : μ.1 0 28 = 0) (h44 : μ.1 0 44 = nI j) (hp : ptM μ w h f) (hc : colM μ j w0 h0 f0) : if w = w0 then (if h0 + h ≤ 8 then ∃ r, cmK μ = some r ∧ colM r j w (h0 + h) (vst f0 h0 f) ∧ fcm μ r j else cmK μ = some (bad μ 3 (μ.1 34 j))) else cmK μ = some (bad μ 2 (μ.1 34 j)) := by
  obtain ⟨c1, c2, c3⟩ := hc
  have e30 : rI μ 8 30 (μ.1 0 44) = some (nI w0) := by rw [h44, rI_nI hj (by decide), c1]
  have e31 : rI μ 8 31 (μ.1 0 44) = some (nI h0) := by rw [h44, rI_nI hj (by decide), c2]
  have e34 : rI μ 8 34 (μ.1 0 44) = some (μ.1 34 j) := by rw [h44, rI_nI hj (by decide)]
  have n0 : ¬ nI w0 = 0 := by
    rw [iz0, iz_nat]; exact fun z => by have := (iz_eq (by omega) (by omega) (by omega) (by omega)).mp z; omega
  have nh : ¬ nI h0 ≤ 0 := by rw [iz0, iz_nat, iz_le (by omega) (by omega) (by omega) (by omega)]; omega
  have cw : nI w0 = nI w ↔ w = w0 := ⟨fun z => (nI_inj (by omega) (by omega) z).symm, fun z => by rw [z]⟩
  have hK : cmK μ = (if nI w0 = μ.1 0 32 then (if (nI h0 + (μ.1 0 33)) ≤ (8 : Int32) then f_X10_comes_L220 ((64 : Int32) * (μ.1 0 44)) (nI h0) (fun μ48 => (wI μ48 8 30 (μ48.1 0 44) (μ48.1 0 32)).bind (fun μ49 => (wI μ49 8 31 (μ49.1 0 44) (nI h0 + (μ49.1 0 33))).bind (fun μ50 => (some μ50)))) FU (0 : Int32) μ else some (bad μ 3 (μ.1 34 j))) else some (bad μ 2 (μ.1 34 j))) := by
    unfold cmK
    rw [if_pos h28, e30, bi_some, if_neg n0, e31, bi_some, if_neg nh, bi_some]
    by_cases z : nI w0 = μ.1 0 32
    · rw [if_pos z, if_pos z]
      by_cases z2 : (nI h0 + (μ.1 0 33)) ≤ (8 : Int32)
      · rw [if_pos z2, if_pos z2]
      · rw [if_neg z2, if_neg z2, e34, bi_some, failM h28, bi_some, if_neg (fbad (by decide))]; rfl
    · rw [if_neg z, if_neg z, e34, bi_some, failM h28, bi_some, if_neg (fbad (by decide))]; rfl
  rw [hK, hp.1, hp.2.1, nI_add]
  by_cases hww : w = w0
  · rw [if_pos hww, if_pos (cw.mpr hww)]
    by_cases h8 : h0 + h ≤ 8
    · rw [if_pos h8, if_pos ((le8 (by omega)).mpr h8)]
      exact cmK_cp hj hw8 h8 h44 hp (fun c t h1 h2 => c3 c t (by omega) h2) (fun c t => rfl)
    · rw [if_neg h8, if_neg (fun z => h8 ((le8 (by omega)).mp z))]
  · rw [if_neg hww, if_neg (fun z => hww (cw.mp z))]
def fen (μ r : Mem) (j : Nat) : Prop := (∀ b, b ≠ 27 → b ≠ 28 → b ≠ 29 → b ≠ 30 → r.1 b = μ.1 b) ∧ (∀ i, i ≠ j → r.1 27 i = μ.1 27 i ∧ r.1 28 i = μ.1 28 i ∧ r.1 30 i = μ.1 30 i) ∧ (∀ i, i < 64 * j ∨ 64 * j + 64 ≤ i → r.1 29 i = μ.1 29 i)
theorem en_cp {μ : Mem} {j w h w0 : Nat} {f f0 g : Pic} (hj : j < 8) (hh8 : h ≤ 8) (h8 : w0 + w ≤ 8) (h44 : μ.1 0 44 = nI j) (hc : colM μ j w h f) (hr : ∀ c t, c < w0 → t < h → μ.1 29 (64 * j + 8 * t + c) = nI (f0 c t)) (hg : ∀ c t, g c t = if c < w0 then f0 c t else f (c - w0) t) : ∃ r, f_X10_ends_L100 ((64 : Int32) * (μ.1 0 44)) (nI w0) (fun μ13 => (rI μ13 8 30 (μ13.1 0 44)).bind (fun e14 => (wI μ13 8 27 (μ13.1 0 44) (nI w0 + e14)).bind (fun μ15 => (rI μ15 8 31 (μ15.1 0 44)).bind (fun e16 => (wI μ15 8 28 (μ15.1 0 44) e16).bind (fun μ17 => (wI μ17 8 30 (μ17.1 0 44) (0 : Int32)).bind (fun μ18 => (some μ18))))))) FU (0 : Int32) μ = some r ∧ rowM r j (w0 + w) h g ∧ r.1 30 j = 0 ∧ fen μ r j := by
  obtain ⟨c1, c2, c3⟩ := hc
  obtain ⟨q, e, q1, q2, q3⟩ := en_out (j := j) (w0 := w0) (w := w) (h := h) (K := fun μ13 => (rI μ13 8 30 (μ13.1 0 44)).bind (fun e14 => (wI μ13 8 27 (μ13.1 0 44) (nI w0 + e14)).bind (fun μ15 => (rI μ15 8 31 (μ15.1 0 44)).bind (fun e16 => (wI μ15 8 28 (μ15.1 0 44) e16).bind (fun μ17 => (wI μ17 8 30 (μ17.1 0 44) (0 : Int32)).bind (fun μ18 => (some μ18))))))) hj h8 hh8 h FU 0 μ (by omega) (show h < 8192 by omega) h44 c1 c2
  rw [show nI 0 = (0 : Int32) from rfl] at e
  have k44 : q.1 0 44 = nI j := by rw [q1 0 (by decide)]; exact h44
  have k30 : q.1 30 j = nI w := by rw [q1 30 (by decide)]; exact c1
  have k31 : q.1 31 j = nI h := by rw [q1 31 (by decide)]; exact c2
  rw [h44, j64, e, k44, rI_nI hj (by decide), bi_some, k30, nI_add, wI_nI hj (by decide), bi_some, sI_pl (show (0 : Nat) ≠ 27 by decide), k44, rI_nI hj (by decide), bi_some, sI_pl (show (31 : Nat) ≠ 27 by decide), k31, wI_nI hj (by decide), bi_some, sI_pl (show (0 : Nat) ≠ 28 by decide), sI_pl (show (0 : Nat) ≠ 27 by decide), k44, wI_nI hj (by decide), bi_some]
  refine ⟨_, rfl, ⟨by rw [sI_pl (by decide), sI_pl (by decide), sI_same], by rw [sI_pl (by decide), sI_same], fun c t hc2 ht => ?_⟩, sI_same _ _ _ _, fun b h1 h2 h3 h4 => by rw [sI_pl h4, sI_pl h2, sI_pl h1, q1 b h3], fun i hi => ⟨by rw [sI_sl hi, sI_sl hi, sI_sl hi, q1 27 (by decide)], by rw [sI_sl hi, sI_sl hi, sI_sl hi, q1 28 (by decide)], by rw [sI_sl hi, sI_sl hi, sI_sl hi, q1 30 (by decide)]⟩, fun i hi => by rw [sI_pl (by decide), sI_pl (by decide), sI_pl (by decide), q2 i (fun k c a1 a2 a3 => by omega)]⟩
  rw [sI_pl (by decide), sI_pl (by decide), sI_pl (by decide), hg]
  by_cases hth : c < w0
  · rw [if_pos hth, q2 _ (fun k c2 a1 a2 a3 => by omega)]; exact hr c t hth ht
  · rw [if_neg hth]
    have := q3 (c - w0) t (Nat.zero_le _) ht (by omega)
    rw [show 64 * j + 8 * t + w0 + (c - w0) = 64 * j + 8 * t + c by omega] at this
    rw [this]
    exact c3 (c - w0) t (by omega) ht
theorem en_1 {μ : Mem} {j w h : Nat} {f : Pic} (hj : j < 8) (hw8 : w ≤ 8) (hh8 : h ≤ 8) (h28 : μ.1 0 28 = 0) (h44 : μ.1 0 44 = nI j) (hc : colM μ j w h f) (h27 : μ.1 27 j = 0) : ∃ r, f_X10_ends μ = some r ∧ rowM r j w h f ∧ r.1 30 j = 0 ∧ fen μ r j := by
  obtain ⟨r, e, r1, r2, r3⟩ := en_cp (μ := μ) (j := j) (w := w) (h := h) (w0 := 0) (f := f) (f0 := f) (g := f) hj hh8 (by omega) h44 hc (fun c t h1 _ => absurd h1 (Nat.not_lt_zero c)) (fun c t => by rw [if_neg (Nat.not_lt_zero c), Nat.sub_zero])
  rw [Nat.zero_add] at r1
  refine ⟨r, ?_, r1, r2, r3⟩
  unfold f_X10_ends
  have e27 : rI μ 8 27 (μ.1 0 44) = some 0 := by rw [h44, rI_nI hj (by decide), h27]
  have e30 : rI μ 8 30 (μ.1 0 44) = some (nI w) := by rw [h44, rI_nI hj (by decide), hc.1]
  have e8 : (0 : Int32) + nI w ≤ 8 := by
    rw [show (0 : Int32) = nI 0 from rfl, nI_add, Nat.zero_add]; exact (le8 (by omega)).mpr hw8
  rw [e27, bi_some, if_pos (by decide), e30, bi_some, if_pos e8, if_pos h28]
  exact e
theorem en_2 {μ : Mem} {j w h w0 h0 : Nat} {f f0 : Pic} (hj : j < 8) (hw8 : w ≤ 8) (hh8 : h ≤ 8) (hw0 : 1 ≤ w0) (hw08 : w0 ≤ 8) (hh08 : h0 ≤ 8) (h28 : μ.1 0 28 = 0) (h44 : μ.1 0 44 = nI j) (hc : colM μ j w h f) (hr : rowM μ j w0 h0 f0) : if h = h0 then (if w0 + w ≤ 8 then ∃ r, f_X10_ends μ = some r ∧ rowM r j (w0 + w) h (hst f0 w0 f) ∧ r.1 30 j = 0 ∧ fen μ r j else f_X10_ends μ = some (bad μ 3 (μ.1 33 j))) else f_X10_ends μ = some (bad μ 2 (μ.1 33 j)) := by
  obtain ⟨c1, c2, c3⟩ := id hc
  obtain ⟨r1, r2, r3⟩ := hr
  have e27 : rI μ 8 27 (μ.1 0 44) = some (nI w0) := by rw [h44, rI_nI hj (by decide), r1]
  have e28 : rI μ 8 28 (μ.1 0 44) = some (nI h0) := by rw [h44, rI_nI hj (by decide), r2]
  have e30 : rI μ 8 30 (μ.1 0 44) = some (nI w) := by rw [h44, rI_nI hj (by decide), c1]
  have e31 : rI μ 8 31 (μ.1 0 44) = some (nI h) := by rw [h44, rI_nI hj (by decide), c2]
  have e33 : rI μ 8 33 (μ.1 0 44) = some (μ.1 33 j) := by rw [h44, rI_nI hj (by decide)]
  have nh : ¬ nI w0 ≤ 0 := by rw [iz0, iz_nat, iz_le (by omega) (by omega) (by omega) (by omega)]; omega
  have cw : nI h0 = nI h ↔ h = h0 := ⟨fun z => (nI_inj (by omega) (by omega) z).symm, fun z => by rw [z]⟩
  unfold f_X10_ends
  rw [e27, bi_some, if_neg nh, e28, bi_some, e31, bi_some]
  by_cases hww : h = h0
  · rw [if_pos hww, if_pos (cw.mpr hww), e30, bi_some, nI_add]
    by_cases h8 : w0 + w ≤ 8
    · rw [if_pos h8, if_pos ((le8 (by omega)).mpr h8), if_pos h28]
      exact en_cp hj hh8 h8 h44 hc (fun c t h1 h2 => r3 c t h1 (by omega)) (fun c t => rfl)
    · rw [if_neg h8, if_neg (fun z => h8 ((le8 (by omega)).mp z)), e33, bi_some, failM h28, bi_some, if_neg (fbad (by decide))]; rfl
  · rw [if_neg hww, if_neg (fun z => hww (cw.mp z)), e33, bi_some, failM h28, bi_some, if_neg (fbad (by decide))]; rfl
