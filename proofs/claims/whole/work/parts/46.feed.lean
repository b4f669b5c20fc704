/-! the step of feed -/
theorem sh_eq (w : Int32) (n : Nat) (hn : n ≤ 24) : (w >>> (nI n &&& 31)) &&& 255 = iUsh w (nI n) &&& 255 := by
  apply b_ext
  intro i hi
  unfold iUsh
  rw [b_and, b_and, b_sshr n (by omega) w hi, b_ushr n (by omega), b_255]
  by_cases h8 : i < 8
  · rw [if_pos (by omega)]
  · rw [decide_eq_false h8, Bool.and_false, Bool.and_false]
def byN (w : Int32) (n : Nat) : Nat := (iUsh w (nI n)).toBitVec.toNat % 2 ^ 8
theorem byN_eq (w : Int32) (n : Nat) : iUsh w (nI n) &&& 255 = nI (byN w n) := pk_and _ 8 (by decide)
theorem byN_lt (w : Int32) (n : Nat) : byN w n < 256 := Nat.mod_lt _ (by decide)
theorem CT2_push {μ : Mem} {T : List Nat} {b : Nat} (h : CT2 μ T) : CT2 (sI (sI μ 2 T.length (nI b)) 1 1 (nI T.length + 1)) (T ++ [b]) := by
  refine ⟨?_, fun k q hk => ?_⟩
  · rw [sI_same, List.length_append, List.length_singleton, nI_1]
  · rw [sI_pl (by decide), sI_at]
    by_cases hkl : k = T.length
    · subst hkl
      rw [List.getElem?_concat_length] at hk
      cases hk
      rw [if_pos ⟨rfl, rfl⟩]
    · rw [if_neg (fun q => hkl q.2)]
      have hk2 : k < (T ++ [b]).length := (List.getElem?_eq_some_iff.mp hk).1
      rw [List.length_append, List.length_singleton] at hk2
      rw [List.getElem?_append_left (by omega)] at hk
      exact h.2 k q hk
theorem MT_push {μ : Mem} {T : List Nat} {b : Nat} (h : MT μ T) : MT (sI (sI μ 24 T.length (nI b)) 0 25 (nI T.length + 1)) (T ++ [b]) := by
  refine ⟨?_, fun k q hk => ?_⟩
  · rw [sI_same, List.length_append, List.length_singleton, nI_1]
  · rw [sI_pl (by decide), sI_at]
    by_cases hkl : k = T.length
    · subst hkl
      rw [List.getElem?_concat_length] at hk
      cases hk
      rw [if_pos ⟨rfl, rfl⟩]
    · rw [if_neg (fun q => hkl q.2)]
      have hk2 : k < (T ++ [b]).length := (List.getElem?_eq_some_iff.mp hk).1
      rw [List.length_append, List.length_singleton] at hk2
      rw [List.getElem?_append_left (by omega)] at hk
      exact h.2 k q hk
/-- what else stays, behind bytes on the class's tape -/
def keepC (μ r : Mem) : Prop := (∀ b, 3 ≤ b → r.1 b = μ.1 b) ∧ r.2 = μ.2
theorem keepC.tr {a b c : Mem} (h1 : keepC a b) (h2 : keepC b c) : keepC a c := ⟨fun q h => (h2.1 q h).trans (h1.1 q h), h2.2.trans h1.2⟩
theorem app1 {w : Int32} {K : Mem → Option Mem} {n s : Nat} {μ : Mem} {T : List Nat} (hT : CT2 μ T) (hl : T.length < 400) (hs : s ≤ 24) : ∃ r, f_X7_append_L3 w K (n + 1) (nI s) μ = f_X7_append_L3 w K n (nI s + -8) r ∧ CT2 r (T ++ [byN w s]) ∧ keepC μ r := by
  refine ⟨_, ?_, CT2_push (b := byN w s) hT, fun b hb => by rw [sI_pl (by omega), sI_pl (by omega)], rfl⟩
  rw [f_X7_append_L3, if_neg (nI_pos (by omega)), hT.1, if_neg (show ¬ (400 : Int32) ≤ nI T.length from nI_ge hl (by decide)), wI_nI hl (by decide), bi_some, byN_eq, sI_pl (by decide), hT.1]
theorem append_spec {w : Int32} {μ : Mem} {T : List Nat} (hT : CT2 μ T) (hl : T.length + 4 ≤ 400) : ∃ r, f_X7_append w μ = some r ∧ CT2 r (T ++ [byN w 24, byN w 16, byN w 8, byN w 0]) ∧ keepC μ r := by
  have e : FU = 8187 + 1 + 1 + 1 + 1 + 1 := rfl
  unfold f_X7_append
  rw [e]
  obtain ⟨r1, e1, t1, k1⟩ := app1 (w := w) (K := fun μ4 => some μ4) (n := 8187 + 1 + 1 + 1 + 1) (s := 24) hT (by omega) (by omega)
  obtain ⟨r2, e2, t2, k2⟩ := app1 (w := w) (K := fun μ4 => some μ4) (n := 8187 + 1 + 1 + 1) (s := 16) t1 (by simp; omega) (by omega)
  obtain ⟨r3, e3, t3, k3⟩ := app1 (w := w) (K := fun μ4 => some μ4) (n := 8187 + 1 + 1) (s := 8) t2 (by simp; omega) (by omega)
  obtain ⟨r4, e4, t4, k4⟩ := app1 (w := w) (K := fun μ4 => some μ4) (n := 8187 + 1) (s := 0) t3 (by simp; omega) (by omega)
  refine ⟨r4, ?_, by simpa using t4, ((k1.tr k2).tr k3).tr k4⟩
  rw [show (24 : Int32) = nI 24 from rfl, e1, show nI 24 + -8 = nI 16 from by decide, e2, show nI 16 + -8 = nI 8 from by decide, e3, show nI 8 + -8 = nI 0 from by decide, e4, f_X7_append_L3, if_pos (by decide)]
def wd5 (v1 v2 v3 v4 v5 : Int32) (k : Nat) : Int32 := if k < 4 then v1 else if k < 8 then v2 else if k < 12 then v3 else if k < 16 then v4 else v5
def byK (v1 v2 v3 v4 v5 : Int32) (k : Nat) : Nat := byN (wd5 v1 v2 v3 v4 v5 k) (8 * (3 - k % 4))
def keepM (μ r : Mem) : Prop := (∀ b, 1 ≤ b → b ≠ 24 → r.1 b = μ.1 b) ∧ (∀ j, j ≠ 25 → r.1 0 j = μ.1 0 j)
theorem keepM.tr {a b c : Mem} (h1 : keepM a b) (h2 : keepM b c) : keepM a c := ⟨fun q h h3 => (h2.1 q h h3).trans (h1.1 q h h3), fun q h => (h2.2 q h).trans (h1.2 q h)⟩
theorem shK {k : Nat} : ((8 : Int32) * (3 - (nI k - nI k / 4 * 4))) = nI (8 * (3 - k % 4)) ∨ ¬ k < 20 := by
  by_cases h : k < 20
  · exact Or.inl ((show ∀ k, k < 20 → ((8 : Int32) * (3 - (nI k - nI k / 4 * 4))) = nI (8 * (3 - k % 4)) by decide +kernel) k h)
  · exact Or.inr h
theorem feed1 {v1 v2 v3 v4 v5 : Int32} {K : Mem → Option (Int32 × Mem)} {n k : Nat} {μ : Mem} {T : List Nat} (hT : MT μ T) (hl : T.length < 400) (hk : k < 20) : ∃ r, f_X10_feed_L18 v1 v2 v3 v4 v5 K (n + 1) (nI k) μ = f_X10_feed_L18 v1 v2 v3 v4 v5 K n (nI (k + 1)) r ∧ MT r (T ++ [byK v1 v2 v3 v4 v5 k]) ∧ keepM μ r := by
  refine ⟨_, ?_, MT_push (b := byK v1 v2 v3 v4 v5 k) hT, fun b hb h2 => by rw [sI_pl (by omega), sI_pl (by omega)], fun j hj => by rw [sI_sl hj, sI_pl (by decide)]⟩
  have hs : ((8 : Int32) * (3 - (nI k - nI k / 4 * 4))) = nI (8 * (3 - k % 4)) := by rcases shK (k := k) with h | h; exact h; exact absurd hk h
  have e4 : (4 : Int32) ≤ nI k ↔ 4 ≤ k := nI_leI (by decide) (by omega)
  have e8 : (8 : Int32) ≤ nI k ↔ 8 ≤ k := nI_leI (by decide) (by omega)
  have e12 : (12 : Int32) ≤ nI k ↔ 12 ≤ k := nI_leI (by decide) (by omega)
  have e16 : (16 : Int32) ≤ nI k ↔ 16 ≤ k := nI_leI (by decide) (by omega)
  have hm : ∀ w : Int32, (w >>> (nI (8 * (3 - k % 4)) &&& 31)) &&& 255 = nI (byN w (8 * (3 - k % 4))) := fun w => by rw [sh_eq w _ (by omega), byN_eq]
  have hb : nI (byN (wd5 v1 v2 v3 v4 v5 k) (8 * (3 - k % 4))) = nI (byK v1 v2 v3 v4 v5 k) := rfl
  rw [f_X10_feed_L18, if_neg (show ¬ (20 : Int32) ≤ nI k from nI_ge hk (by decide)), hs, hm, hm, hm, hm, hm, hT.1]
  simp only [wI_nI hl (show 400 < 2 ^ 31 by decide), bi_some, e4, e8, e12, e16, nI_1]
  have hsame : ∀ x : Int32, (sI μ 24 T.length x).1 0 25 = nI T.length := fun x => by rw [sI_pl (by decide)]; exact hT.1
  simp only [hsame, nI_1]
  unfold byK wd5
  by_cases h4 : k < 4
  · rw [if_neg (show ¬ 4 ≤ k by omega), if_pos h4]
  · rw [if_pos (show 4 ≤ k by omega), if_neg h4]
    by_cases h8 : k < 8
    · rw [if_neg (show ¬ 8 ≤ k by omega), if_pos h8]
    · rw [if_pos (show 8 ≤ k by omega), if_neg h8]
      by_cases h12 : k < 12
      · rw [if_neg (show ¬ 12 ≤ k by omega), if_pos h12]
      · rw [if_pos (show 12 ≤ k by omega), if_neg h12]
        by_cases h16 : k < 16
        · rw [if_neg (show ¬ 16 ≤ k by omega), if_pos h16]
        · rw [if_pos (show 16 ≤ k by omega), if_neg h16]
theorem feedL {v1 v2 v3 v4 v5 : Int32} {K : Mem → Option (Int32 × Mem)} : ∀ (m n k : Nat) (μ : Mem) (T : List Nat), MT μ T → k + m = 20 → T.length + m ≤ 400 → m < n → ∃ r, f_X10_feed_L18 v1 v2 v3 v4 v5 K n (nI k) μ = K r ∧ MT r (T ++ (List.range' k m).map (byK v1 v2 v3 v4 v5)) ∧ keepM μ r := by
  intro m
  induction m with
  | zero =>
    intro n k μ T hT hk hl hn
    obtain ⟨n', rfl⟩ : ∃ n', n = n' + 1 := ⟨n - 1, by omega⟩
    have hk20 : k = 20 := by omega
    subst hk20
    refine ⟨μ, ?_, by simpa using hT, ⟨fun _ _ _ => rfl, fun _ _ => rfl⟩⟩
    rw [f_X10_feed_L18, if_pos (by decide)]
  | succ m ih =>
    intro n k μ T hT hk hl hn
    obtain ⟨n', rfl⟩ : ∃ n', n = n' + 1 := ⟨n - 1, by omega⟩
    obtain ⟨r1, e1, t1, k1⟩ := feed1 (v1 := v1) (v2 := v2) (v3 := v3) (v4 := v4) (v5 := v5) (K := K) (n := n') (k := k) hT (by omega) (by omega)
    obtain ⟨r2, e2, t2, k2⟩ := ih n' (k + 1) r1 _ t1 (by omega) (by simp; omega) (by omega)
    refine ⟨r2, e1.trans e2, ?_, k1.tr k2⟩
    rw [List.range'_succ, List.map_cons]
    simpa using t2
theorem step_feed {n : Nat} {μc μm : Mem} (S : Sim n μc μm) (v1 v2 v3 v4 v5 : Int32) : Both n (f_X9_feed v1 v2 v3 v4 v5 μc) (f_X10_feed v1 v2 v3 v4 v5 μm) := by
  obtain ⟨σ, hw, hc, hm⟩ := S
  have S : Sim n μc μm := ⟨σ, hw, hc, hm⟩
  have hc4 : CT2 μc (σT σ) := hc.2.2.2.1
  have hm4 : MT μm (σT σ) := hm.2.2.2.1
  have hlen : (σT σ).length ≤ 400 := hw.2.2.2.2.2.2.1
  have e20 : nI (σT σ).length + 20 = nI ((σT σ).length + 20) := nI_add _ 20
  unfold f_X9_feed f_X10_feed f_X7_hasRoom
  rw [hc4.1, hm4.1, e20]
  by_cases hr : (σT σ).length + 20 ≤ 400
  · rw [if_neg (show ¬ (400 : Int32) < nI ((σT σ).length + 20) from nI_nlt hr (by decide)), if_pos (show nI ((σT σ).length + 20) ≤ (400 : Int32) from nI_le hr (by decide)), bd_some, if_neg (by decide)]
    obtain ⟨r1, e1, t1, k1⟩ := append_spec (w := v1) hc4 (by omega)
    obtain ⟨r2, e2, t2, k2⟩ := append_spec (w := v2) t1 (by simp; omega)
    obtain ⟨r3, e3, t3, k3⟩ := append_spec (w := v3) t2 (by simp; omega)
    obtain ⟨r4, e4, t4, k4⟩ := append_spec (w := v4) t3 (by simp; omega)
    obtain ⟨r5, e5, t5, k5⟩ := append_spec (w := v5) t4 (by simp; omega)
    obtain ⟨q, eq, tq, kq⟩ := feedL (v1 := v1) (v2 := v2) (v3 := v3) (v4 := v4) (v5 := v5) (K := fun μ12 => some (μ12.1 0 25, μ12)) 20 FU 0 μm (σT σ) hm4 rfl (by omega) (by decide)
    have kc := (((k1.tr k2).tr k3).tr k4).tr k5
    have hT : ((((σT σ ++ [byN v1 24, byN v1 16, byN v1 8, byN v1 0]) ++ [byN v2 24, byN v2 16, byN v2 8, byN v2 0]) ++ [byN v3 24, byN v3 16, byN v3 8, byN v3 0]) ++ [byN v4 24, byN v4 16, byN v4 8, byN v4 0]) ++ [byN v5 24, byN v5 16, byN v5 8, byN v5 0] = σT σ ++ (List.range' 0 20).map (byK v1 v2 v3 v4 v5) := by
      simp [List.range', byK, wd5]
    rw [hT] at t5
    have hlen2 : (σT σ ++ (List.range' 0 20).map (byK v1 v2 v3 v4 v5)).length = (σT σ).length + 20 := by simp
    refine ⟨nI ((σT σ).length + 20), r5, q, ?_, ?_, (σL σ, σD σ, σS σ, σT σ ++ (List.range' 0 20).map (byK v1 v2 v3 v4 v5), σF σ, σP σ), WF_tape hw (by omega) ?_, RC_tape hw hc kc.1 kc.2 t5, RM_tape hm kq.1 kq.2 tq⟩
    · rw [e1, bi_some, e2, bi_some, e3, bi_some, e4, bi_some, e5, bi_some, t5.1, hlen2]
    · rw [show (0 : Int32) = nI 0 from rfl, eq, tq.1, hlen2]
    · intro b hb
      rcases List.mem_append.mp hb with h | h
      · exact hw.2.2.2.2.2.2.2.1 b h
      · obtain ⟨k, -, rfl⟩ := List.mem_map.mp h
        exact byN_lt _ _
  · rw [if_pos (show (400 : Int32) < nI ((σT σ).length + 20) from nI_lt (a := 400) (show 400 < (σT σ).length + 20 by omega) (by omega)), if_neg (show ¬ nI ((σT σ).length + 20) ≤ (400 : Int32) from nI_ge (a := 400) (show 400 < (σT σ).length + 20 by omega) (by omega)), bd_some, if_pos rfl]
    exact Both.keep S (-1) rfl rfl
