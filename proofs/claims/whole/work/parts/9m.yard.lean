/-! the constructor of the Yard -/
def zlog (z : Zt) (l : Nat) : Zt := zu (zf (zu (zu (zu (zu z (11 + 15 * l) 5) (11 + 15 * l) 9) (11 + 15 * l) 10) (11 + 15 * l) 11) (11 + 15 * l) 10) 7 l
def zL (z : Zt) : Nat → Zt
  | 0 => z
  | l+1 => zlog (zL z l) l
def zdoor (z : Zt) (d : Nat) : Zt := zu (zu (zu (zu z (56 + 4 * d + 1) 0) (56 + 4 * d) 0) (56 + 4 * d) 1) 8 d
def zD (z : Zt) : Nat → Zt
  | 0 => z
  | d+1 => zdoor (zD z d) d
def mdoor (μ : Mem) (d : Nat) : Mem := sI (sI (sI (sI μ (56 + 4 * d) 8 (-1)) (56 + 4 * d) 9 (-1)) (56 + 4 * d) 10 (-1)) (56 + 4 * d) 11 (-1)
def mD (μ : Mem) : Nat → Mem
  | 0 => μ
  | d+1 => mdoor (mD μ d) d
theorem lyLogC {V : Ev} (hL : V.2.2.2 = lyC) {l : Nat} (h : l < 3) : lyLog V (11 + 15 * l) := by
  have hk : kdC (11 + 15 * l) = 4 := kE15 h
  refine ⟨ekC hL hk, ekC hL (kq_4_5 hk), elC hL (nq_4_5 hk), ekC hL (kq_4_9 hk), elC hL (nq_4_9 hk), ekC hL (kq_4_10 hk), elC hL (nq_4_10 hk), ekC hL (kq_4_11 hk), elC hL (nq_4_11 hk), fun k hk2 => ekC hL (kE14 hk hk2), erC hL (rq_4_5 hk), erC hL (rq_4_9 hk), erC hL (rq_4_10 hk), erC hL (rq_4_11 hk), fun k _ => erC hL (rE14 hk)⟩
theorem okB_log {V : Ev} {z : Zt} {l : Nat} (hL : V.2.2.2 = lyC) (h : l < 3) (hz : okB V z (11 + 15 * l)) : okB V (zlog z l) (11 + 15 * (l + 1)) := by
  have ly := lyLogC hL h
  have ly' := ly
  obtain ⟨l1, l2, l3, l4, l5, l6, l7, l8, l9, l10, l11, l12, l13, l14, l15⟩ := ly'
  have hz0 := hz.to (show 11 + 15 * l ≤ 11 + 15 * (l + 1) by omega)
  have h1 := (((hz0.zu (a := 11 + 15 * l) (j := 5) (by omega) (by rw [l11]; omega)).zu (a := 11 + 15 * l) (j := 9) (by omega) (by rw [l12]; omega)).zu (a := 11 + 15 * l) (j := 10) (by omega) (by rw [l13]; omega)).zu (a := 11 + 15 * l) (j := 11) (by omega) (by rw [l14]; omega)
  have h2 := okB_zf ly h1 10 (by omega) (by omega)
  refine h2.zu (by omega) ?_
  have : evR V 7 l = 11 + 15 * l := erC hL rfl
  rw [this]; omega
theorem okB_zL {V : Ev} {z : Zt} (hL : V.2.2.2 = lyC) (hz : okB V z 11) : ∀ l, l ≤ 3 → okB V (zL z l) (11 + 15 * l) := by
  intro l
  induction l with
  | zero => intro _; exact hz
  | succ l ih => intro h; exact okB_log hL (by omega) (ih (by omega))
theorem dr0 {V : Ev} (hL : V.2.2.2 = lyC) {d : Nat} (h : d < 8) : evK V (56 + 4 * d) = 0 ∧ evK V (56 + 4 * d + 1) = 1 ∧ evK V (56 + 4 * d + 1 + 1) = 11 ∧ evL V (56 + 4 * d + 1 + 1) = 64 ∧ evK V (56 + 4 * d + 1 + 1 + 1) = 11 ∧ evL V (56 + 4 * d + 1 + 1 + 1) = 10 ∧ evR V (56 + 4 * d) 0 = 56 + 4 * d + 1 ∧ evR V (56 + 4 * d) 1 = 56 + 4 * d + 1 + 1 + 1 ∧ evR V (56 + 4 * d + 1) 0 = 56 + 4 * d + 1 + 1 ∧ evR V 8 d = 56 + 4 * d := by
  have k0 : kdC (56 + 4 * d) = 0 := kE13 h
  have k1 := kq_0_0 k0
  exact ⟨ekC hL k0, ekC hL k1, ekC hL (kq_1_0 k1), elC hL (nq_1_0 k1), ekC hL (kq_0_1 k0), elC hL (nq_0_1 k0), erC hL (rq_0_0 k0), erC hL (rq_0_1 k0), erC hL (rq_1_0 k1), erC hL rfl⟩
theorem okB_door {V : Ev} {z : Zt} {d : Nat} (hL : V.2.2.2 = lyC) (h : d < 8) (hz : okB V z (56 + 4 * d)) : okB V (zdoor z d) (56 + 4 * (d + 1)) := by
  obtain ⟨d1, d2, d3, d4, d5, d6, d7, d8, d9, d10⟩ := dr0 hL h
  have hz0 := hz.to (show 56 + 4 * d ≤ 56 + 4 * (d + 1) by omega)
  exact (((hz0.zu (a := 56 + 4 * d + 1) (j := 0) (by omega) (by rw [d9]; omega)).zu (a := 56 + 4 * d) (j := 0) (by omega) (by rw [d7]; omega)).zu (a := 56 + 4 * d) (j := 1) (by omega) (by rw [d8]; omega)).zu (a := 8) (j := d) (by omega) (by rw [d10]; omega)
theorem okB_zD {V : Ev} {z : Zt} (hL : V.2.2.2 = lyC) (hz : okB V z 56) : ∀ d, d ≤ 8 → okB V (zD z d) (56 + 4 * d) := by
  intro d
  induction d with
  | zero => intro _; exact hz
  | succ d ih => intro h; exact okB_door hL (by omega) (ih (by omega))
theorem mB_mD {μ : Mem} (hm : mB μ 56) : ∀ d, d ≤ 8 → mB (mD μ d) (56 + 4 * d) := by
  intro d
  induction d with
  | zero => intro _; exact hm
  | succ d ih =>
    intro h
    exact (((((ih (by omega)).to (show 56 + 4 * d ≤ 56 + 4 * (d + 1) by omega)).sI (by omega)).sI (by omega)).sI (by omega)).sI (by omega)
theorem zL_keep {z : Zt} {b i : Nat} (hb : b ≠ 7) (hb2 : b < 11) : ∀ l, zL z l b i = z b i := by
  intro l
  induction l with
  | zero => rfl
  | succ l ih =>
    have zfk : ∀ (w : Zt) k, zf w (11 + 15 * l) k b i = w b i := by
      intro w k
      induction k with
      | zero => rfl
      | succ k ihk =>
        show zu (zf w (11 + 15 * l) k) (11 + 15 * l + 2) k b i = w b i
        rw [zu_ne (by omega)]; exact ihk
    show zlog (zL z l) l b i = z b i
    unfold zlog
    rw [zu_ne (by omega), zfk, zu_ne (by omega), zu_ne (by omega), zu_ne (by omega), zu_ne (by omega)]
    exact ih
theorem zD_keep {z : Zt} {b i : Nat} (hb : b ≠ 8) (hb2 : b < 56) : ∀ d, zD z d b i = z b i := by
  intro d
  induction d with
  | zero => rfl
  | succ d ih =>
    show zdoor (zD z d) d b i = z b i
    unfold zdoor
    rw [zu_ne (by omega), zu_ne (by omega), zu_ne (by omega), zu_ne (by omega)]
    exact ih
theorem yard_D {X : Cx} {μ : Mem} {z : Zt} (hX : FN X cX8_init RX8 3 81 5399) (hL : (xV X).2.2.2 = lyC) (hn : xn X = 2) (hR : RtN X 7 81 5399 (mD μ 8) (zD z 8) 88) (hz : okB (xV X) z 56) (hz1 : z 6 1 = true) (hm : mB μ 56) : ∀ (m d : Nat) (ad : Nat → Nat), d + m = 8 → (∀ b, b < 7 → ad b = evA (xV X) b) → GN X ad 60 [(1, .int (nI d)), (0, .ref (evA (xV X) 6))] [] (mD μ d) (zD z d) (56 + 4 * d) (49 + 4 * d) (4687 + 89 * d) := by
  intro m
  induction m with
  | zero =>
    intro d ad hd hold
    have : d = 8 := by omega
    subst this
    refine gn_iload_n hX dX8_init_60 0 rfl ?_
    refine gn_bipush (v := 8) hX dX8_init_61 (by decide) ?_
    refine gn_icmp_ge hX 85 dX8_init_63 (by decide) (fun _ => ?_) (fun h => absurd (by decide) h)
    exact gn_ret hX hR hold (by decide) (by decide) dX8_init_85
  | succ m ih =>
    intro d ad hd hold
    have hd8 : ¬ (8 : Int32) ≤ nI d := nI_ge (b := 8) (by omega) (by omega)
    have hz' := okB_zD hL hz d (by omega)
    have hm' := mB_mD hm d (by omega)
    have e6 : evK (xV X) 6 = 8 := ekC hL (by decide)
    have e8 : evK (xV X) 8 = 13 := ekC hL (by decide)
    have r61 : evR (xV X) 6 1 = 8 := erC hL rfl
    obtain ⟨d1, d2, d3, d4, d5, d6, d7, d8, d9, d10⟩ := dr0 hL (show d < 8 by omega)
    refine gn_iload_n hX dX8_init_60 0 rfl ?_
    refine gn_bipush (v := 8) hX dX8_init_61 (by decide) ?_
    refine gn_icmp_ge hX 85 dX8_init_63 (by decide) (fun h => absurd h hd8) (fun _ => ?_)
    refine gn_aload_n hX dX8_init_66 1 rfl ?_
    refine gn_getR (a := 6) (ci := 8) (j := 1) hX dX8_init_67 fl_X8_19 e6 (by omega) (hold 6 (by omega)) (by rw [zD_keep (by decide) (by decide)]; exact hz1) ?_
    rw [r61]
    refine gn_iload_n hX dX8_init_70 0 rfl ?_
    refine gn_new (ci := 0) hX dX8_init_71 nw_X8_17 d1 hz'.z hm'.z hz'.f (by omega) (by show 4687 + 89 * d + 12 ≤ 5399; omega) (fun q => ?_)
    refine gn_dup hX dX8_init_74 rfl ?_
    refine gn_initN (As := []) (rest := [.ref q, .int (nI d), .ref (ad 8)]) (b := q) (mcc := 3) (msc := 77) hX dX8_init_75 (by
      have := k_X0 (l := xl X) (V := sA (xV X) (upA ad (56 + 4 * d) q)) (a := 56 + 4 * d) (μ := mD μ d) (z := zD z d) d1 d2 d3 d4 d5 d6 d7 d8 d9 hz'.up hm'.up
      have e : evA (sA (xV X) (upA ad (56 + 4 * d) q)) (56 + 4 * d) = q := upA_n
      rw [e] at this
      exact this) mwI_X0 imI_X0 rfl (by decide) rfl rfl (by decide) (by decide) (Nat.le_of_ble_eq_true rfl) (by omega) (by show 4687 + 89 * d + 12 + 77 ≤ 5399; omega) (fun ad2 ha2 => ?_)
    have e2 : ad2 8 = ad 8 := (ha2 8 (by omega)).trans (upA_ne (by omega))
    have e3 : ad2 (56 + 4 * d) = q := (ha2 (56 + 4 * d) (by omega)).trans upA_n
    refine gn_aast (a := 8) (N := 8) (i := d) (kk0 := 13) (t0 := 2) (ci := 0) (r := (RX0, TX0, 12)) hX dX8_init_78 rfl (by omega) (by decide) e8 (by decide) (elC hL (by decide)) rfl rfl (by decide) (by rw [d10]; exact d1) (by rw [d10]; omega) (by omega) e2 (by rw [d10]; exact e3) ?_
    refine gn_iinc hX dX8_init_79 0 1 [(1, .int (nI (d + 1))), (0, .ref (evA (xV X) 6))] rfl (by decide) (by rw [hn]; decide) (by rw [nI_s]; rfl) ?_
    refine gn_goto hX 60 dX8_init_82 (by decide) ?_
    exact ih (d + 1) ad2 (by omega) (fun b hb => ((ha2 b (by omega)).trans (upA_ne (by omega))).trans (hold b hb))
theorem yard_L {X : Cx} {μ : Mem} {z : Zt} (hX : FN X cX8_init RX8 3 81 5399) (hL : (xV X).2.2.2 = lyC) (hn : xn X = 2) (hR : RtN X 7 81 5399 (mD μ 8) (zD (zL z 3) 8) 88) (hz : okB (xV X) z 11) (hz0 : z 6 0 = true) (hz1 : z 6 1 = true) (hm : mB μ 11) : ∀ (m l : Nat) (ad : Nat → Nat), l + m = 3 → (∀ b, b < 7 → ad b = evA (xV X) b) → GN X ad 34 [(1, .int (nI l)), (0, .ref (evA (xV X) 6))] [] μ (zL z l) (11 + 15 * l) (4 + 15 * l) (25 + 1554 * l) := by
  intro m
  induction m with
  | zero =>
    intro l ad hl hold
    have : l = 3 := by omega
    subst this
    refine gn_iload_n hX dX8_init_34 0 rfl ?_
    refine gn_iconst (v := 3) hX dX8_init_35 (by decide) ?_
    refine gn_icmp_ge hX 58 dX8_init_36 (by decide) (fun _ => ?_) (fun h => absurd (by decide) h)
    refine gn_iconst (v := 0) hX dX8_init_58 (by decide) ?_
    refine gn_istore_n hX dX8_init_59 [(1, .int (nI 0)), (0, .ref (evA (xV X) 6))] (by rw [hn]; decide) rfl ?_
    exact yard_D hX hL hn hR (okB_zL hL hz 3 (by decide)) (by rw [zL_keep (by decide) (by decide)]; exact hz1) (hm.to (by decide)) 8 0 ad rfl hold
  | succ m ih =>
    intro l ad hl hold
    have hl3 : ¬ (3 : Int32) ≤ nI l := nI_ge (b := 3) (by omega) (by omega)
    have hz' := okB_zL hL hz l (by omega)
    have hm' := hm.to (show 11 ≤ 11 + 15 * l by omega)
    have ly := lyLogC hL (show l < 3 by omega)
    have e6 : evK (xV X) 6 = 8 := ekC hL (by decide)
    have e7 : evK (xV X) 7 = 15 := ekC hL (by decide)
    have r60 : evR (xV X) 6 0 = 7 := erC hL rfl
    have r7 : evR (xV X) 7 l = 11 + 15 * l := erC hL rfl
    refine gn_iload_n hX dX8_init_34 0 rfl ?_
    refine gn_iconst (v := 3) hX dX8_init_35 (by decide) ?_
    refine gn_icmp_ge hX 58 dX8_init_36 (by decide) (fun h => absurd h hl3) (fun _ => ?_)
    refine gn_aload_n hX dX8_init_39 1 rfl ?_
    refine gn_getR (a := 6) (ci := 8) (j := 0) hX dX8_init_40 fl_X8_11 e6 (by omega) (hold 6 (by omega)) (by rw [zL_keep (by decide) (by decide)]; exact hz0) ?_
    rw [r60]
    refine gn_iload_n hX dX8_init_43 0 rfl ?_
    refine gn_new (ci := 4) hX dX8_init_44 nw_X8_9 ly.1 hz'.z hm'.z hz'.f (by omega) (by show 25 + 1554 * l + 12 ≤ 5399; omega) (fun q => ?_)
    refine gn_dup hX dX8_init_47 rfl ?_
    refine gn_init (As := []) (rest := [.ref q, .int (nI l), .ref (ad 7)]) (b := q) (mcc := 14) (msc := 1542) hX dX8_init_48 (by
      have := k_X4 (l := xl X) (V := sA (xV X) (upA ad (11 + 15 * l) q)) (a := 11 + 15 * l) (μ := μ) (z := zL z l) ly hz'.up hm'.up
      have e : evA (sA (xV X) (upA ad (11 + 15 * l) q)) (11 + 15 * l) = q := upA_n
      rw [e] at this
      exact this) mwI_X4 imI_X4 rfl (by decide +kernel) rfl rfl (by decide) (by decide) (Nat.le_of_ble_eq_true rfl) (by omega) (by show 25 + 1554 * l + 12 + 1542 ≤ 5399; omega) (fun ad2 ha2 => ?_)
    have e2 : ad2 7 = ad 7 := (ha2 7 (by omega)).trans (upA_ne (by omega))
    have e3 : ad2 (11 + 15 * l) = q := (ha2 (11 + 15 * l) (by omega)).trans upA_n
    refine gn_aast (a := 7) (N := 3) (i := l) (kk0 := 15) (t0 := 4) (ci := 4) (r := (RX4, TX4, 12)) hX dX8_init_51 rfl (by omega) (by decide) e7 (by decide) (elC hL (by decide)) rfl rfl (by decide) (by rw [r7]; exact ly.1) (by rw [r7]; omega) (by omega) e2 (by rw [r7]; exact e3) ?_
    refine gn_iinc hX dX8_init_52 0 1 [(1, .int (nI (l + 1))), (0, .ref (evA (xV X) 6))] rfl (by decide) (by rw [hn]; decide) (by rw [nI_s]; rfl) ?_
    refine gn_goto hX 34 dX8_init_55 (by decide) ?_
    have key := ih (l + 1) ad2 (by omega) (fun b hb => ((ha2 b (by omega)).trans (upA_ne (by omega))).trans (hold b hb))
    have en : 11 + 15 * l + 5 + 10 = 11 + 15 * (l + 1) := by omega
    have ek : 4 + 15 * l + 1 + 14 = 4 + 15 * (l + 1) := by omega
    have em : 25 + 1554 * l + nf 4 + 1542 = 25 + 1554 * (l + 1) := by show 25 + 1554 * l + 12 + 1542 = 25 + 1554 * (l + 1); omega
    rw [en, ek, em]
    exact key
