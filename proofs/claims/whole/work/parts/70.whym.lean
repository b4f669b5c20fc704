/-! why: the model's loops -/
def cmM (μ : Mem) (M : Nat → Nat) : Prop := ∀ o, o < 10 → μ.1 48 o = nI (M o)
theorem cmM_inc {μ : Mem} {M : Nat → Nat} {o : Nat} (h : cmM μ M) : cmM (sI μ 48 o (nI (M o + 1))) (inc M o) := by
  intro q hq
  rw [sI_at]
  unfold inc
  by_cases e : q = o
  · rw [if_pos ⟨rfl, e⟩, if_pos e, e]
  · rw [if_neg (fun z => e z.2), if_neg e]; exact h q hq
theorem scM_48 {μ : Mem} {o : Nat} {v : Int32} : scM μ (sI μ 48 o v) := ⟨fun b _ h => sI_pl (by omega), fun j _ => by rw [sI_pl (by decide)]⟩
theorem fiV_none {o : Option Nat} (h : ∀ k, o = some k → k < 100) : fiV o = -1 ↔ o = none := by
  cases o with
  | none => simp [fiV]
  | some k =>
    have hk := h k rfl
    constructor
    · intro q
      exfalso
      have q2 : nI k = iz (-1) := q
      rw [iz_nat, iz_eq (by omega) (by omega) (by omega) (by omega)] at q2
      omega
    · intro q; cases q
theorem fiL_lt {i x y w h : Int32} : ∀ (l : List FlawD) (k j : Nat), fiL l k i x y w h = some j → j < k + l.length := by
  intro l
  induction l with
  | nil => intro k j q; simp [fiL] at q
  | cons f l ih =>
    intro k j q
    unfold fiL at q
    by_cases ho : ovB f i x y w h = true
    · rw [if_pos ho] at q; cases q; simp
    · rw [if_neg ho] at q
      have := ih (k + 1) j q
      simp; omega
theorem wm_in {n : Nat} {σ : St} {l d : Nat} {g : LogD} {D : DoorD} {v3 v4 v5 : Int32} {K : Mem → Option (Int32 × Mem)} {r : Nat} (hw : WF n σ) (hn : n < 600) (hl : l < 3) (hL : σL σ l = some g) (hd : d < 8) (hD : σD σ d = some D) (hr : r < dH D) : ∀ (m k c B : Nat) (M : Nat → Nat) (μ : Mem), RM σ μ → cmM μ M → (∀ q, M q ≤ B) → B + m ≤ 64 → c + m = dW D → m < k → ∃ μ', scM μ μ' ∧ f_X10_why_L59 (nI d) (nI l) v3 v4 v5 (nI r) K k (nI c) μ = (if whR (rvV σ l g D v3 v4 v5) D r m c M = 0 then K μ' else some (whR (rvV σ l g D v3 v4 v5) D r m c M, μ')) ∧ (whR (rvV σ l g D v3 v4 v5) D r m c M = 0 → cmM μ' (ctR D r m c M)) := by
  have wd := (hw.2.1 d D hD).2
  have hg := (hw.1 l g hL).2
  have hN := hg.2.1
  have hLen := hg.2.2.2.1
  have hfl := WFg_fl hg
  have w2 := wd.2.1
  have w4 := wd.2.2.2.1
  obtain ⟨-, -, -, -, wc, p1, p2, p3, p4, -⟩ := wd
  have wd := (hw.2.1 d D hD).2
  intro m
  induction m with
  | zero =>
    intro k c B M μ hm hM hB hB2 hcm hk
    obtain ⟨k', rfl⟩ : ∃ k', k = k' + 1 := ⟨k - 1, by omega⟩
    have md : Md μ d D := by have := hm.2.1 d hd; rw [hD] at this; exact this
    refine ⟨μ, scM.rf, ?_, fun _ => hM⟩
    rw [f_X10_why_L59, rI_nI hd (by decide), bi_some, md.1, if_pos (nI_le (by omega) (by omega))]; rfl
  | succ m ih =>
    intro k c B M μ hm hM hB hB2 hcm hk
    obtain ⟨k', rfl⟩ : ∃ k', k = k' + 1 := ⟨k - 1, by omega⟩
    have md : Md μ d D := by have := hm.2.1 d hd; rw [hD] at this; exact this
    have ho := (wc c r (by omega) hr).1
    have hv64 := (wc c r (by omega) hr).2
    have hb := hB (offs (dC D c r))
    have hmh := mh_rng (k := M (offs (dC D c r))) (h := dPh D) (by omega) p4
    have r3 := i32_rng v3
    have r4 := i32_rng v4
    have r5 := i32_rng v5
    rw [f_X10_why_L59, rI_nI hd (by decide), bi_some, md.1, if_neg (nI_ge (by omega) (by omega)), pieceOf_eq hd (by omega) (by omega), bd_some, md.2.2.1 c r (by omega) hr, and15 hv64]
    generalize hof : offs (dC D c r) = o at *
    have e1 : ((Int32.toInt64 v3) + (Int32.toInt64 (nI o))).toInt = v3.toInt + (o : Nat) := add64 (toI64 v3) (by rw [toI64, nI_toInt (by omega)]) (by omega) (by omega)
    have e2 : ((Int32.toInt64 v4) + (Int32.toInt64 (nI (M o)) * Int32.toInt64 (nI (dPh D)))).toInt = v4.toInt + ((M o : Nat) : Int) * (dPh D : Nat) := by
      have hmz : ((M o : Nat) : Int) * (dPh D : Nat) ≤ 3840 := by
        have : ((M o * dPh D : Nat) : Int) ≤ 3840 := by omega
        simpa using this
      have hmz0 : 0 ≤ ((M o : Nat) : Int) * (dPh D : Nat) := Int.mul_nonneg (by omega) (by omega)
      exact add64 (toI64 v4) (mul64 (by rw [toI64, nI_toInt (by omega)]) (by rw [toI64, nI_toInt (by omega)]) (by omega) (by omega)) (by omega) (by omega)
    rw [rI_nI (by omega) (by decide), bi_some, rI_nI hd (by decide), bi_some, bi_some, hM _ (by omega), wI_nI (by omega) (by decide), bi_some, nI_s, md.2.2.2.2.1]
    generalize hq : (Int32.toInt64 v3) + (Int32.toInt64 (nI o)) = Q at *
    generalize ht : (Int32.toInt64 v4) + (Int32.toInt64 (nI (M o)) * Int32.toInt64 (nI (dPh D))) = T at *
    have hmz : ((M o : Nat) : Int) * (dPh D : Nat) ≤ 3840 := by
      have : ((M o * dPh D : Nat) : Int) ≤ 3840 := by omega
      simpa using this
    have hmz0 : 0 ≤ ((M o : Nat) : Int) * (dPh D : Nat) := Int.mul_nonneg (by omega) (by omega)
    have hsc : scM μ (sI μ 48 o (nI (M o + 1))) := scM_48
    have hm1 : RM σ (sI μ 48 o (nI (M o + 1))) := RM_sc hm hsc
    have hM1 : cmM (sI μ 48 o (nI (M o + 1))) (inc M o) := cmM_inc hM
    generalize hμ1 : sI μ 48 o (nI (M o + 1)) = μ1 at *
    have mg : Mg μ1 l g := by have := hm1.1 l hl; rw [hL] at this; exact this
    have md1 : Md μ1 d D := by have := hm1.2.1 d hd; rw [hD] at this; exact this
    have hwr : ∀ v, whR (rvV σ l g D v3 v4 v5) D r (m + 1) c M = (if v = 0 then whR (rvV σ l g D v3 v4 v5) D r m (c + 1) (inc M o) else v) ∨ rvV σ l g D v3 v4 v5 o (M o) ≠ v := by
      intro v
      by_cases q : rvV σ l g D v3 v4 v5 o (M o) = v
      · left; rw [← q]
        show (if rvV σ l g D v3 v4 v5 (offs (dC D c r)) (M (offs (dC D c r))) = 0 then whR (rvV σ l g D v3 v4 v5) D r m (c + 1) (inc M (offs (dC D c r))) else rvV σ l g D v3 v4 v5 (offs (dC D c r)) (M (offs (dC D c r)))) = _
        rw [hof]
      · right; exact q
    have hcr : ctR D r (m + 1) c M = ctR D r m (c + 1) (inc M o) := by rw [← hof]; rfl
    rw [hcr]
    have stop : ∀ v : Int32, v ≠ 0 → rvV σ l g D v3 v4 v5 o (M o) = v → ∃ μ', scM μ μ' ∧ some (v, μ1) = (if whR (rvV σ l g D v3 v4 v5) D r (m + 1) c M = 0 then K μ' else some (whR (rvV σ l g D v3 v4 v5) D r (m + 1) c M, μ')) ∧ (whR (rvV σ l g D v3 v4 v5) D r (m + 1) c M = 0 → cmM μ' (ctR D r m (c + 1) (inc M o))) := by
      intro v hv he
      rcases hwr v with h | h
      · rw [if_neg hv] at h
        rw [h]
        exact ⟨μ1, hsc, (if_neg hv).symm, fun q => absurd q hv⟩
      · exact absurd he h
    have e0 : (0 : Int64).toInt = 0 := rfl
    have eN : (nI (gN g)).toInt = gN g := nI_toInt (by omega)
    have ew : (nI (dPw D)).toInt = dPw D := nI_toInt (by omega)
    have eh : (nI (dPh D)).toInt = dPh D := nI_toInt (by omega)
    have hrv : rvV σ l g D v3 v4 v5 o (M o) = rcV σ l g D Q.toInt T.toInt v5.toInt := by rw [e1, e2]; rfl
    rw [hrv] at stop hwr
    unfold rcV at stop hwr
    rw [rI_nI hl (by decide), bi_some, mg.1]
    simp only [lg_cmp_lt, l64_lt, toI64, e0, eN]
    by_cases h1 : Q.toInt < 0
    · rw [if_pos h1]
      exact stop 1 (by decide) (if_pos (by omega))
    · rw [if_neg h1]
      by_cases h2 : Q.toInt < (gN g : Int)
      · rw [if_pos h2, toI32 (by omega) (by omega), rI_nI hd (by decide), bi_some, rI_nI hd (by decide), bi_some, md1.2.2.2.1, md1.2.2.2.2.1, within_eq hg mg hl (by omega) (by rw [toI64]; omega) (by rw [toI64]; omega) (by omega) (by omega), bd_some, toI64, ew, eh]
        rw [if_neg (show ¬ ¬ (0 ≤ Q.toInt ∧ Q.toInt < (gN g : Int)) by omega)] at stop hwr
        by_cases h3 : (0 ≤ v5.toInt ∧ v5.toInt + dPw D ≤ wdt g Q.toInt.toNat) ∧ (0 ≤ T.toInt ∧ T.toInt + dPh D ≤ gLen g)
        · have hwr2 := wdt_rng hg (show Q.toInt.toNat < 12 by omega)
          rw [if_neg (fun z => z h3)] at stop hwr
          rw [b01_t h3, if_neg (by decide), rI_nI hd (by decide), bi_some, rI_nI hd (by decide), bi_some, md1.2.2.2.1, md1.2.2.2.2.1, toI32 (by omega) (by omega), flawIn_eq hg hl mg, bd_some]
          have ev : nI v5.toInt.toNat = v5 := (nI_ofI h3.1.1).symm
          rw [ev] at stop hwr
          have hfn := fiV_none (o := fiL (gF g) 0 (nI Q.toInt.toNat) v5 (nI T.toInt.toNat) (nI (dPw D)) (nI (dPh D))) (fun k hk => by have := fiL_lt _ _ _ hk; omega)
          by_cases h4 : fiL (gF g) 0 (nI Q.toInt.toNat) v5 (nI T.toInt.toNat) (nI (dPw D)) (nI (dPh D)) = none
          · rw [if_neg (fun z => z h4)] at stop hwr
            have hcut := cutM (l := l) (i := Q.toInt.toNat) (x := v5.toInt.toNat) (y := T.toInt.toNat) (w := dPw D) (h := dPh D) hw hn hm1.2.2.1 hl (by omega) (by omega) (by omega) (by omega) (by omega)
            rw [ev] at hcut
            rw [if_pos (hfn.mpr h4), rI_nI hd (by decide), bi_some, rI_nI hd (by decide), bi_some, md1.2.2.2.1, md1.2.2.2.2.1, hcut, bd_some]
            by_cases h5 : (σS σ).any (stB l Q.toInt.toNat v5.toInt.toNat T.toInt.toNat (dPw D) (dPh D)) = true
            · rw [b01_t h5, if_neg (by decide)]
              exact stop 4 (by decide) (if_pos h5)
            · rw [b01_f h5, if_pos rfl, nI_s]
              rw [if_neg h5] at hwr
              have hw0 : whR (rvV σ l g D v3 v4 v5) D r (m + 1) c M = whR (rvV σ l g D v3 v4 v5) D r m (c + 1) (inc M o) := by
                rcases hwr 0 with h | h
                · rw [if_pos rfl] at h; exact h
                · exact absurd rfl h
              rw [hw0]
              obtain ⟨μ', q1, q2, q3⟩ := ih k' (c + 1) (B + 1) (inc M o) μ1 hm1 hM1 (inc_le hB) (by omega) (by omega) (by omega)
              exact ⟨μ', scM.tr hsc q1, q2, q3⟩
          · rw [if_neg (fun z => h4 (hfn.mp z))]
            exact stop 3 (by decide) (if_pos h4)
        · rw [b01_f h3, if_pos rfl]
          exact stop 2 (by decide) (if_pos h3)
      · rw [if_neg h2]
        exact stop 1 (by decide) (if_pos (by omega))
