/-! why one piece does not fit: the class's side -/
/-- a piece of offset o, m pieces of its offset ahead of it, at leaf F, height Y, place x -/
def rcV (σ : St) (l : Nat) (g : LogD) (D : DoorD) (q t : Int) (x : Int) : Int32 :=
  if ¬ (0 ≤ q ∧ q < gN g) then 1
  else if ¬ ((0 ≤ x ∧ x + dPw D ≤ wdt g q.toNat) ∧ (0 ≤ t ∧ t + dPh D ≤ gLen g)) then 2
  else if fiL (gF g) 0 (nI q.toNat) (nI x.toNat) (nI t.toNat) (nI (dPw D)) (nI (dPh D)) ≠ none then 3
  else if (σS σ).any (stB l q.toNat x.toNat t.toNat (dPw D) (dPh D)) = true then 4 else 0
theorem toI32 {q : Int64} (h1 : 0 ≤ q.toInt) (h2 : q.toInt < 1000) : Int64.toInt32 q = nI q.toInt.toNat := by
  rw [← iz_of (Int64.toInt32 q), iz_nat, Int.toNat_of_nonneg h1, Int64.toInt_toInt32]
  congr 1
  exact Int.bmod_eq_of_le (by omega) (by omega)
theorem nI_ofI {x : Int32} (h1 : 0 ≤ x.toInt) : x = nI x.toInt.toNat := by
  rw [iz_nat, Int.toNat_of_nonneg h1, iz_of]
theorem reasonC {n : Nat} {σ : St} {μ : Mem} {l : Nat} {g : LogD} {b : Nat} {D : DoorD} {q t : Int64} {x : Int32} (hw : WF n σ) (hc : RC σ μ) (hl : l < 3) (hL : σL σ l = some g) (wd : WFd D) (hb3 : μ.1 b 3 = nI (dPw D)) (hb4 : μ.1 b 4 = nI (dPh D)) : f_X2_reasonOfCut b (11 + 15 * l) q t x μ = some (rcV σ l g D q.toInt t.toInt x.toInt, μ) := by
  have hg := (hw.1 l g hL).2
  have cg : Cg μ (11 + 15 * l) g := by have := hc.1 l hl; rw [hL] at this; exact this
  have hN := hg.2.1
  have hLen := hg.2.2.2.1
  obtain ⟨-, -, -, -, -, p1, p2, p3, p4, -⟩ := wd
  unfold f_X2_reasonOfCut rcV
  rw [hasLeaf_eq cg.2.1 (by omega), bd_some]
  by_cases h1 : 0 ≤ q.toInt ∧ q.toInt < gN g
  · rw [b01_t h1, if_neg (by decide), if_neg (fun z => z h1), hb3, hb4, toI32 h1.1 (by omega), holds_eq hg cg (by omega) (by rw [nI_toInt (by omega)]; omega) (by rw [nI_toInt (by omega)]; omega) (by rw [nI_toInt (by omega)]; omega) (by rw [nI_toInt (by omega)]; omega), bd_some, nI_toInt (show dPw D < 2 ^ 31 by omega), nI_toInt (show dPh D < 2 ^ 31 by omega)]
    by_cases h2 : (0 ≤ x.toInt ∧ x.toInt + dPw D ≤ wdt g q.toInt.toNat) ∧ (0 ≤ t.toInt ∧ t.toInt + dPh D ≤ gLen g)
    · have hwr := wdt_rng hg (show q.toInt.toNat < 12 by omega)
      rw [b01_t h2, if_neg (by decide), if_neg (fun z => z h2), hb3, hb4, toI32 h2.2.1 (by omega), nI_ofI h2.1.1]
      have e : (nI x.toInt.toNat).toInt.toNat = x.toInt.toNat := by rw [nI_toInt (by omega)]; omega
      rw [e, flawedC (by omega) (by omega) (by omega) p1, bd_some]
      have hfs := flaw_same (x := x.toInt.toNat) (y := t.toInt.toNat) (w := dPw D) (h := dPh D) hg cg (show q.toInt.toNat < gN g by omega) (by omega) (by omega) p1 p3
      by_cases h3 : boxB μ (11 + 15 * l + 3) q.toInt.toNat x.toInt.toNat t.toInt.toNat (dPw D) (dPh D) = true
      · rw [b01_t h3, if_neg (by decide), if_pos (hfs.mp h3)]
      · rw [b01_f h3, if_pos rfl, if_neg (fun z => h3 (hfs.mpr z)), hb3, hb4, cutC (by omega) (by omega) (by omega) p1, bd_some]
        have hcs := cut_same (x := x.toInt.toNat) (y := t.toInt.toNat) (w := dPw D) (h := dPh D) hc.2.2.1 hl hL (show q.toInt.toNat < 12 by omega) (by omega) (by omega) p1 p3 (fun s hs => by
          obtain ⟨-, -, q1, q2, -⟩ := hw.2.2.1 s hs
          exact ⟨q1, q2⟩)
        by_cases h4 : boxB μ (11 + 15 * l + 4) q.toInt.toNat x.toInt.toNat t.toInt.toNat (dPw D) (dPh D) = true
        · rw [b01_t h4, if_neg (by decide), if_pos (hcs.mp h4)]
        · rw [b01_f h4, if_pos rfl, if_neg (fun z => h4 (hcs.mpr z))]
    · rw [b01_f h2, if_pos rfl, if_pos h2]
  · rw [b01_f h1, if_pos rfl, if_pos h1]
