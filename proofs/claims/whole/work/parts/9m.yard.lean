/-! the constructor of the Yard -/
def zlog (z : Zt) (l : Nat) : Zt := zu (zf (zu (zu (zu (zu z (12 + 15 * l) 5) (12 + 15 * l) 9) (12 + 15 * l) 10) (12 + 15 * l) 11) (12 + 15 * l) 10) 8 l
def zL (z : Zt) : Nat → Zt
  | 0 => z
  | l+1 => zlog (zL z l) l
def zdoor (z : Zt) (d : Nat) : Zt := zu (zu (zu (zu z (57 + 4 * d + 1) 0) (57 + 4 * d) 0) (57 + 4 * d) 1) 9 d
def zD (z : Zt) : Nat → Zt
  | 0 => z
  | d+1 => zdoor (zD z d) d
def mdoor (μ : Mem) (d : Nat) : Mem := sI (sI (sI (sI μ (57 + 4 * d) 8 (-1)) (57 + 4 * d) 9 (-1)) (57 + 4 * d) 10 (-1)) (57 + 4 * d) 11 (-1)
def mD (μ : Mem) : Nat → Mem
  | 0 => μ
  | d+1 => mdoor (mD μ d) d
theorem kdK_log : ∀ l, l < 3 → kdK (12 + 15 * l) = 4 ∧ kdK (12 + 15 * l + 1) = 11 ∧ lnK (12 + 15 * l + 1) = 12 ∧ kdK (12 + 15 * l + 2) = 14 ∧ lnK (12 + 15 * l + 2) = 10 ∧ kdK (12 + 15 * l + 3) = 12 ∧ lnK (12 + 15 * l + 3) = 720 ∧ kdK (12 + 15 * l + 4) = 12 ∧ lnK (12 + 15 * l + 4) = 720 ∧ ∀ k, k < 10 → kdK (12 + 15 * l + 5 + k) = 3 := by decide +kernel
theorem rfK_4 {a : Nat} (h : kdK a = 4) : rfK a 5 = a + 1 ∧ rfK a 9 = a + 2 ∧ rfK a 10 = a + 3 ∧ rfK a 11 = a + 4 := by
  unfold rfK; rw [h]; exact ⟨rfl, rfl, rfl, rfl⟩
theorem rfK_14 {a k : Nat} (h : kdK a = 14) : rfK a k = a + 3 + k := by
  unfold rfK; rw [h]; rfl
theorem lyLogK {V : Ev} (hL : V.2.2.2 = lyK) {l : Nat} (h : l < 3) : lyLog V (12 + 15 * l) := by
  obtain ⟨k1, k2, k3, k4, k5, k6, k7, k8, k9, k10⟩ := kdK_log l h
  obtain ⟨r1, r2, r3, r4⟩ := rfK_4 k1
  exact ⟨ekK hL k1, ekK hL k2, elK hL k3, ekK hL k4, elK hL k5, ekK hL k6, elK hL k7, ekK hL k8, elK hL k9, fun k hk2 => ekK hL (k10 k hk2), erK hL r1, erK hL r2, erK hL r3, erK hL r4, fun k _ => (erK hL (rfK_14 k4)).trans (by omega)⟩
theorem okB_log {V : Ev} {z : Zt} {l : Nat} (hL : V.2.2.2 = lyK) (h : l < 3) (hz : okB V z (12 + 15 * l)) : okB V (zlog z l) (12 + 15 * (l + 1)) := by
  have ly := lyLogK hL h
  have ly' := ly
  obtain ⟨l1, l2, l3, l4, l5, l6, l7, l8, l9, l10, l11, l12, l13, l14, l15⟩ := ly'
  have hz0 := hz.to (show 12 + 15 * l ≤ 12 + 15 * (l + 1) by omega)
  have h1 := (((hz0.zu (a := 12 + 15 * l) (j := 5) (by omega) (by rw [l11]; omega)).zu (a := 12 + 15 * l) (j := 9) (by omega) (by rw [l12]; omega)).zu (a := 12 + 15 * l) (j := 10) (by omega) (by rw [l13]; omega)).zu (a := 12 + 15 * l) (j := 11) (by omega) (by rw [l14]; omega)
  have h2 := okB_zf ly h1 10 (by omega) (by omega)
  refine h2.zu (by omega) ?_
  have : evR V 8 l = 12 + 15 * l := erK hL rfl
  rw [this]; omega
theorem okB_zL {V : Ev} {z : Zt} (hL : V.2.2.2 = lyK) (hz : okB V z 12) : ∀ l, l ≤ 3 → okB V (zL z l) (12 + 15 * l) := by
  intro l
  induction l with
  | zero => intro _; exact hz
  | succ l ih => intro h; exact okB_log hL (by omega) (ih (by omega))
theorem kdK_door : ∀ d, d < 8 → kdK (57 + 4 * d) = 0 ∧ kdK (57 + 4 * d + 1) = 1 ∧ kdK (57 + 4 * d + 1 + 1) = 11 ∧ lnK (57 + 4 * d + 1 + 1) = 64 ∧ kdK (57 + 4 * d + 1 + 1 + 1) = 11 ∧ lnK (57 + 4 * d + 1 + 1 + 1) = 10 := by decide +kernel
theorem rfK_0 {a : Nat} (h : kdK a = 0) : rfK a 0 = a + 1 ∧ rfK a 1 = a + 1 + 1 + 1 := by
  unfold rfK; rw [h]; exact ⟨rfl, rfl⟩
theorem rfK_1 {a : Nat} (h : kdK a = 1) : rfK a 0 = a + 1 := by
  unfold rfK; rw [h]; rfl
theorem dr0 {V : Ev} (hL : V.2.2.2 = lyK) {d : Nat} (h : d < 8) : evK V (57 + 4 * d) = 0 ∧ evK V (57 + 4 * d + 1) = 1 ∧ evK V (57 + 4 * d + 1 + 1) = 11 ∧ evL V (57 + 4 * d + 1 + 1) = 64 ∧ evK V (57 + 4 * d + 1 + 1 + 1) = 11 ∧ evL V (57 + 4 * d + 1 + 1 + 1) = 10 ∧ evR V (57 + 4 * d) 0 = 57 + 4 * d + 1 ∧ evR V (57 + 4 * d) 1 = 57 + 4 * d + 1 + 1 + 1 ∧ evR V (57 + 4 * d + 1) 0 = 57 + 4 * d + 1 + 1 ∧ evR V 9 d = 57 + 4 * d := by
  obtain ⟨k1, k2, k3, k4, k5, k6⟩ := kdK_door d h
  obtain ⟨r1, r2⟩ := rfK_0 k1
  exact ⟨ekK hL k1, ekK hL k2, ekK hL k3, elK hL k4, ekK hL k5, elK hL k6, erK hL r1, erK hL r2, erK hL (rfK_1 k2), erK hL rfl⟩
theorem okB_door {V : Ev} {z : Zt} {d : Nat} (hL : V.2.2.2 = lyK) (h : d < 8) (hz : okB V z (57 + 4 * d)) : okB V (zdoor z d) (57 + 4 * (d + 1)) := by
  obtain ⟨d1, d2, d3, d4, d5, d6, d7, d8, d9, d10⟩ := dr0 hL h
  have hz0 := hz.to (show 57 + 4 * d ≤ 57 + 4 * (d + 1) by omega)
  exact (((hz0.zu (a := 57 + 4 * d + 1) (j := 0) (by omega) (by rw [d9]; omega)).zu (a := 57 + 4 * d) (j := 0) (by omega) (by rw [d7]; omega)).zu (a := 57 + 4 * d) (j := 1) (by omega) (by rw [d8]; omega)).zu (a := 9) (j := d) (by omega) (by rw [d10]; omega)
theorem okB_zD {V : Ev} {z : Zt} (hL : V.2.2.2 = lyK) (hz : okB V z 57) : ∀ d, d ≤ 8 → okB V (zD z d) (57 + 4 * d) := by
  intro d
  induction d with
  | zero => intro _; exact hz
  | succ d ih => intro h; exact okB_door hL (by omega) (ih (by omega))
theorem mB_mD {μ : Mem} (hm : mB μ 57) : ∀ d, d ≤ 8 → mB (mD μ d) (57 + 4 * d) := by
  intro d
  induction d with
  | zero => intro _; exact hm
  | succ d ih =>
    intro h
    exact (((((ih (by omega)).to (show 57 + 4 * d ≤ 57 + 4 * (d + 1) by omega)).sI (by omega)).sI (by omega)).sI (by omega)).sI (by omega)
theorem zL_keep {z : Zt} {b i : Nat} (hb : b ≠ 8) (hb2 : b < 12) : ∀ l, zL z l b i = z b i := by
  intro l
  induction l with
  | zero => rfl
  | succ l ih =>
    have zfk : ∀ (w : Zt) k, zf w (12 + 15 * l) k b i = w b i := by
      intro w k
      induction k with
      | zero => rfl
      | succ k ihk =>
        show zu (zf w (12 + 15 * l) k) (12 + 15 * l + 2) k b i = w b i
        rw [zu_ne (by omega)]; exact ihk
    show zlog (zL z l) l b i = z b i
    unfold zlog
    rw [zu_ne (by omega), zfk, zu_ne (by omega), zu_ne (by omega), zu_ne (by omega), zu_ne (by omega)]
    exact ih
theorem zD_keep {z : Zt} {b i : Nat} (hb : b ≠ 9) (hb2 : b < 57) : ∀ d, zD z d b i = z b i := by
  intro d
  induction d with
  | zero => rfl
  | succ d ih =>
    show zdoor (zD z d) d b i = z b i
    unfold zdoor
    rw [zu_ne (by omega), zu_ne (by omega), zu_ne (by omega), zu_ne (by omega)]
    exact ih
theorem yard_D {X : Cx} {μ : Mem} {z : Zt} (hX : FN X cX8_init RX8 3 81 5399) (hL : (xV X).2.2.2 = lyK) (hn : xn X = 2) (hR : RtN X 8 81 5399 (mD μ 8) (zD z 8) 89) (hz : okB (xV X) z 57) (hz1 : z 7 1 = true) (hm : mB μ 57) : ∀ (m d : Nat) (ad : Nat → Nat), d + m = 8 → (∀ b, b < 8 → ad b = evA (xV X) b) → GN X ad 60 [(1, .int (nI d)), (0, .ref (evA (xV X) 7))] [] (mD μ d) (zD z d) (57 + 4 * d) (49 + 4 * d) (4687 + 89 * d) := by
  intro m
  induction m with
  | zero =>
    intro d ad hd hold
    have : d = 8 := by omega
    subst this
    refine gn_iload_n hX dX8_init_60 0 rfl ?_
    refine gn_bipush (v := 8) hX dX8_init_61 (by decide) ?_
    refine gn_icmp_ge hX 85 dX8_init_63 (by decide) (fun _ => ?_) (fun h => absurd (by decide) h)
    exact gn_ret hX hR hold (by decide) (by decide) dX8_init_85
  | succ m ih =>
    intro d ad hd hold
    have hd8 : ¬ (8 : Int32) ≤ nI d := nI_ge (b := 8) (by omega) (by omega)
    have hz' := okB_zD hL hz d (by omega)
    have hm' := mB_mD hm d (by omega)
    have e6 : evK (xV X) 7 = 8 := ekK hL (by decide)
    have e8 : evK (xV X) 9 = 13 := ekK hL (by decide)
    have r61 : evR (xV X) 7 1 = 9 := erK hL rfl
    obtain ⟨d1, d2, d3, d4, d5, d6, d7, d8, d9, d10⟩ := dr0 hL (show d < 8 by omega)
    refine gn_iload_n hX dX8_init_60 0 rfl ?_
    refine gn_bipush (v := 8) hX dX8_init_61 (by decide) ?_
    refine gn_icmp_ge hX 85 dX8_init_63 (by decide) (fun h => absurd h hd8) (fun _ => ?_)
    refine gn_aload_n hX dX8_init_66 1 rfl ?_
    refine gn_getR (a := 7) (ci := 8) (j := 1) hX dX8_init_67 fl_X8_19 e6 (by omega) (hold 7 (by omega)) (by rw [zD_keep (by decide) (by decide)]; exact hz1) ?_
    rw [r61]
    refine gn_iload_n hX dX8_init_70 0 rfl ?_
    refine gn_new (ci := 0) hX dX8_init_71 nw_X8_17 d1 hz'.z hm'.z hz'.f (by omega) (by show 4687 + 89 * d + 12 ≤ 5399; omega) (fun q => ?_)
    refine gn_dup hX dX8_init_74 rfl ?_
    refine gn_initN (As := []) (rest := [.ref q, .int (nI d), .ref (ad 9)]) (b := q) (mcc := 3) (msc := 77) hX dX8_init_75 (by
      have := k_X0 (l := xl X) (V := sA (xV X) (upA ad (57 + 4 * d) q)) (a := 57 + 4 * d) (μ := mD μ d) (z := zD z d) d1 d2 d3 d4 d5 d6 d7 d8 d9 hz'.up hm'.up
      have e : evA (sA (xV X) (upA ad (57 + 4 * d) q)) (57 + 4 * d) = q := upA_n
      rw [e] at this
      exact this) mwI_X0 imI_X0 rfl (by decide) rfl rfl (by decide) (by decide) (Nat.le_of_ble_eq_true rfl) (by omega) (by show 4687 + 89 * d + 12 + 77 ≤ 5399; omega) (fun ad2 ha2 => ?_)
    have e2 : ad2 9 = ad 9 := (ha2 9 (by omega)).trans (upA_ne (by omega))
    have e3 : ad2 (57 + 4 * d) = q := (ha2 (57 + 4 * d) (by omega)).trans upA_n
    refine gn_aast (a := 9) (N := 8) (i := d) (kk0 := 13) (t0 := 2) (ci := 0) (r := (RX0, TX0, 12)) hX dX8_init_78 rfl (by omega) (by decide) e8 (by decide) (elK hL (by decide)) rfl rfl (by decide) (by rw [d10]; exact d1) (by rw [d10]; omega) (by omega) e2 (by rw [d10]; exact e3) ?_
    refine gn_iinc hX dX8_init_79 0 1 [(1, .int (nI (d + 1))), (0, .ref (evA (xV X) 7))] rfl (by decide) (by rw [hn]; decide) (by rw [nI_s]; rfl) ?_
    refine gn_goto hX 60 dX8_init_82 (by decide) ?_
    exact ih (d + 1) ad2 (by omega) (fun b hb => ((ha2 b (by omega)).trans (upA_ne (by omega))).trans (hold b hb))
theorem yard_L {X : Cx} {μ : Mem} {z : Zt} (hX : FN X cX8_init RX8 3 81 5399) (hL : (xV X).2.2.2 = lyK) (hn : xn X = 2) (hR : RtN X 8 81 5399 (mD μ 8) (zD (zL z 3) 8) 89) (hz : okB (xV X) z 12) (hz0 : z 7 0 = true) (hz1 : z 7 1 = true) (hm : mB μ 12) : ∀ (m l : Nat) (ad : Nat → Nat), l + m = 3 → (∀ b, b < 8 → ad b = evA (xV X) b) → GN X ad 34 [(1, .int (nI l)), (0, .ref (evA (xV X) 7))] [] μ (zL z l) (12 + 15 * l) (4 + 15 * l) (25 + 1554 * l) := by
  intro m
  induction m with
  | zero =>
    intro l ad hl hold
    have : l = 3 := by omega
    subst this
    refine gn_iload_n hX dX8_init_34 0 rfl ?_
    refine gn_iconst (v := 3) hX dX8_init_35 (by decide) ?_
    refine gn_icmp_ge hX 58 dX8_init_36 (by decide) (fun _ => ?_) (fun h => absurd (by decide) h)
    refine gn_iconst (v := 0) hX dX8_init_58 (by decide) ?_
    refine gn_istore_n hX dX8_init_59 [(1, .int (nI 0)), (0, .ref (evA (xV X) 7))] (by rw [hn]; decide) rfl ?_
    exact yard_D hX hL hn hR (okB_zL hL hz 3 (by decide)) (by rw [zL_keep (by decide) (by decide)]; exact hz1) (hm.to (by decide)) 8 0 ad rfl hold
  | succ m ih =>
    intro l ad hl hold
    have hl3 : ¬ (3 : Int32) ≤ nI l := nI_ge (b := 3) (by omega) (by omega)
    have hz' := okB_zL hL hz l (by omega)
    have hm' := hm.to (show 12 ≤ 12 + 15 * l by omega)
    have ly := lyLogK hL (show l < 3 by omega)
    have e6 : evK (xV X) 7 = 8 := ekK hL (by decide)
    have e7 : evK (xV X) 8 = 15 := ekK hL (by decide)
    have r60 : evR (xV X) 7 0 = 8 := erK hL rfl
    have r7 : evR (xV X) 8 l = 12 + 15 * l := erK hL rfl
    refine gn_iload_n hX dX8_init_34 0 rfl ?_
    refine gn_iconst (v := 3) hX dX8_init_35 (by decide) ?_
    refine gn_icmp_ge hX 58 dX8_init_36 (by decide) (fun h => absurd h hl3) (fun _ => ?_)
    refine gn_aload_n hX dX8_init_39 1 rfl ?_
    refine gn_getR (a := 7) (ci := 8) (j := 0) hX dX8_init_40 fl_X8_11 e6 (by omega) (hold 7 (by omega)) (by rw [zL_keep (by decide) (by decide)]; exact hz0) ?_
    rw [r60]
    refine gn_iload_n hX dX8_init_43 0 rfl ?_
    refine gn_new (ci := 4) hX dX8_init_44 nw_X8_9 ly.1 hz'.z hm'.z hz'.f (by omega) (by show 25 + 1554 * l + 12 ≤ 5399; omega) (fun q => ?_)
    refine gn_dup hX dX8_init_47 rfl ?_
    refine gn_init (As := []) (rest := [.ref q, .int (nI l), .ref (ad 8)]) (b := q) (mcc := 14) (msc := 1542) hX dX8_init_48 (by
      have := k_X4 (l := xl X) (V := sA (xV X) (upA ad (12 + 15 * l) q)) (a := 12 + 15 * l) (μ := μ) (z := zL z l) ly hz'.up hm'.up
      have e : evA (sA (xV X) (upA ad (12 + 15 * l) q)) (12 + 15 * l) = q := upA_n
      rw [e] at this
      exact this) mwI_X4 imI_X4 rfl (by decide +kernel) rfl rfl (by decide) (by decide) (Nat.le_of_ble_eq_true rfl) (by omega) (by show 25 + 1554 * l + 12 + 1542 ≤ 5399; omega) (fun ad2 ha2 => ?_)
    have e2 : ad2 8 = ad 8 := (ha2 8 (by omega)).trans (upA_ne (by omega))
    have e3 : ad2 (12 + 15 * l) = q := (ha2 (12 + 15 * l) (by omega)).trans upA_n
    refine gn_aast (a := 8) (N := 3) (i := l) (kk0 := 15) (t0 := 4) (ci := 4) (r := (RX4, TX4, 12)) hX dX8_init_51 rfl (by omega) (by decide) e7 (by decide) (elK hL (by decide)) rfl rfl (by decide) (by rw [r7]; exact ly.1) (by rw [r7]; omega) (by omega) e2 (by rw [r7]; exact e3) ?_
    refine gn_iinc hX dX8_init_52 0 1 [(1, .int (nI (l + 1))), (0, .ref (evA (xV X) 7))] rfl (by decide) (by rw [hn]; decide) (by rw [nI_s]; rfl) ?_
    refine gn_goto hX 34 dX8_init_55 (by decide) ?_
    have key := ih (l + 1) ad2 (by omega) (fun b hb => ((ha2 b (by omega)).trans (upA_ne (by omega))).trans (hold b hb))
    have en : 12 + 15 * l + 5 + 10 = 12 + 15 * (l + 1) := by omega
    have ek : 4 + 15 * l + 1 + 14 = 4 + 15 * (l + 1) := by omega
    have em : 25 + 1554 * l + nf 4 + 1542 = 25 + 1554 * (l + 1) := by show 25 + 1554 * l + 12 + 1542 = 25 + 1554 * (l + 1); omega
    rw [en, ek, em]
    exact key
