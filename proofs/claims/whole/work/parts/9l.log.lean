/-! the constructor of a Log -/
def zf (z : Zt) (a : Nat) : Nat → Zt
  | 0 => z
  | k+1 => zu (zf z a k) (a + 2) k
def lyLog (V : Ev) (a : Nat) : Prop := evK V a = 4 ∧ evK V (a + 1) = 11 ∧ evL V (a + 1) = 12 ∧ evK V (a + 2) = 14 ∧ evL V (a + 2) = 10 ∧ evK V (a + 3) = 12 ∧ evL V (a + 3) = 720 ∧ evK V (a + 4) = 12 ∧ evL V (a + 4) = 720 ∧ (∀ k, k < 10 → evK V (a + 5 + k) = 3) ∧ evR V a 5 = a + 1 ∧ evR V a 9 = a + 2 ∧ evR V a 10 = a + 3 ∧ evR V a 11 = a + 4 ∧ ∀ k, k < 10 → evR V (a + 2) k = a + 5 + k
theorem okB_zf {V : Ev} {z : Zt} {a n : Nat} (hl : lyLog V a) (hz : okB V z n) : ∀ k, k ≤ 10 → a + 5 + k ≤ n → okB V (zf z a k) n := by
  intro k
  induction k with
  | zero => intro _ _; exact hz
  | succ k ih => intro hk hn; exact (ih (by omega) (by omega)).zu (by omega) (by rw [hl.2.2.2.2.2.2.2.2.2.2.2.2.2.2 k (by omega)]; omega)
theorem log_L {X : Cx} {a : Nat} {μ : Mem} {z : Zt} (hX : FN X cX4_init RX4 2 14 1542) (hl : lyLog (xV X) a) (hn : xn X = 2) (hR : RtN X (a + 1) 14 1542 μ (zf z a 10) (a + 5 + 10)) (hz : okB (xV X) z (a + 5)) (hz9 : z a 9 = true) (hm : mB μ (a + 1)) : ∀ (m k : Nat) (ad : Nat → Nat), k + m = 10 → (∀ b, b < a + 1 → ad b = evA (xV X) b) → GN X ad 41 [(1, .int (nI k)), (0, .ref (evA (xV X) a))] [] μ (zf z a k) (a + 5 + k) (4 + k) (1462 + 8 * k) := by
  have hl' := hl
  obtain ⟨l1, l2, l3, l4, l5, l6, l7, l8, l9, l10, l11, l12, l13, l14, l15⟩ := hl'
  have z9 : ∀ k, zf z a k a 9 = true := by
    intro k
    induction k with
    | zero => exact hz9
    | succ k ih =>
      show zu (zf z a k) (a + 2) k a 9 = true
      rw [zu_ne (by omega)]; exact ih
  intro m
  induction m with
  | zero =>
    intro k ad hk hold
    have : k = 10 := by omega
    subst this
    refine gn_iload_n hX dX4_init_41 0 rfl ?_
    refine gn_bipush (v := 10) hX dX4_init_42 (by decide) ?_
    refine gn_icmp_ge hX 66 dX4_init_44 (by decide) (fun _ => ?_) (fun h => absurd (by decide) h)
    exact gn_ret hX hR hold (by decide) (by decide) dX4_init_66
  | succ m ih =>
    intro k ad hk hold
    have hk10 : ¬ (10 : Int32) ≤ nI k := nI_ge (b := 10) (by omega) (by omega)
    refine gn_iload_n hX dX4_init_41 0 rfl ?_
    refine gn_bipush (v := 10) hX dX4_init_42 (by decide) ?_
    refine gn_icmp_ge hX 66 dX4_init_44 (by decide) (fun h => absurd h hk10) (fun _ => ?_)
    refine gn_aload_n hX dX4_init_47 1 rfl ?_
    refine gn_getR (a := a) (ci := 4) (j := 9) hX dX4_init_48 fl_X4_17 l1 (by omega) (hold a (by omega)) (z9 k) ?_
    rw [l12]
    refine gn_iload_n hX dX4_init_51 0 rfl ?_
    have hzk := okB_zf hl (hz.to (show a + 5 ≤ a + 5 + k by omega)) k (by omega) (Nat.le_refl _)
    refine gn_new (ci := 3) hX dX4_init_52 nw_X4_15 (l10 k (by omega)) hzk.z (hm.to (show a + 1 ≤ a + 5 + k by omega)).z hzk.f (by omega) (by show 1462 + 8 * k + 8 ≤ 1542; omega) (fun q => ?_)
    refine gn_dup hX dX4_init_55 rfl ?_
    refine gn_initN (As := []) (rest := [.ref q, .int (nI k), .ref (ad (a + 2))]) (b := q) (mcc := 0) (msc := 0) hX dX4_init_56 k_X3 mwI_X3 imI_X3 rfl (by decide) rfl rfl (by decide) (by decide) (Nat.le_of_ble_eq_true rfl) (by omega) (by show 1462 + 8 * k + 8 + 0 ≤ 1542; omega) (fun ad2 ha2 => ?_)
    have e2 : ad2 (a + 2) = ad (a + 2) := (ha2 (a + 2) (by omega)).trans (upA_ne (by omega))
    have e3 : ad2 (a + 5 + k) = q := (ha2 (a + 5 + k) (by omega)).trans upA_n
    refine gn_aast (a := a + 2) (N := 10) (i := k) (kk0 := 14) (t0 := 3) (ci := 3) (r := (RX3, TX3, 8)) hX dX4_init_59 rfl (by omega) (by decide) l4 (by decide) l5 rfl rfl (by decide) (by rw [l15 k (by omega)]; exact l10 k (by omega)) (by rw [l15 k (by omega)]; omega) (by omega) e2 (by rw [l15 k (by omega)]; exact e3) ?_
    refine gn_iinc hX dX4_init_60 0 1 [(1, .int (nI (k + 1))), (0, .ref (evA (xV X) a))] rfl (by decide) (by rw [hn]; decide) (by rw [nI_s]; rfl) ?_
    refine gn_goto hX 41 dX4_init_63 (by decide) ?_
    exact ih (k + 1) ad2 (by omega) (fun b hb => ((ha2 b (by omega)).trans (upA_ne (by omega))).trans (hold b hb))
theorem k_X4 {l : Launch} {V : Ev} {a : Nat} {μ : Mem} {z : Zt} (hl : lyLog V a) (hz : okB V z (a + 1)) (hm : mB μ (a + 1)) : KT l V yX4_init cX4_init 2 2 14 1542 [.ref (evA V a)] μ z (a + 1) μ (zf (zu (zu (zu (zu z a 5) a 9) a 10) a 11) a 10) (a + 5 + 10) := by
  refine gn_met [(0, .ref (evA V a))] (by decide) rfl (Nat.le_of_ble_eq_true rfl) rfl (fun X h1 h2 h3 hX hR => ?_)
  subst h2
  have hl' := hl
  obtain ⟨l1, l2, l3, l4, l5, l6, l7, l8, l9, l10, l11, l12, l13, l14, l15⟩ := hl'
  refine gn_aload_n hX dX4_init_0 0 rfl ?_
  refine gn_obj hX dX4_init_1 (by decide +kernel) (by decide) (by decide) ?_
  refine gn_aload_n hX dX4_init_4 0 rfl ?_
  refine gn_bipush (v := 12) hX dX4_init_5 (by decide) ?_
  refine gn_newi (N := 12) hX dX4_init_7 rfl (by decide) l2 l3 hz.z (hm _ (by omega)).1 (by decide) (by decide) (fun q1 => ?_)
  have e1 : upA (evA (xV X)) (a + 1) q1 a = evA (xV X) a := upA_ne (by omega)
  refine gn_putF (a := a) (ci := 4) (j := 5) hX dX4_init_9 fl_X4_9 ff_4_5 l1 (by omega) e1 (by rw [l11, upA_n]) ?_
  have hz1 : okB (xV X) (zu z a 5) (a + 1 + 1) := hz.up.zu (by omega) (by rw [l11]; omega)
  refine gn_aload_n hX dX4_init_12 0 rfl ?_
  refine gn_bipush (v := 10) hX dX4_init_13 (by decide) ?_
  refine gn_newq (N := 10) (kk0 := 14) (t0 := 3) (C := RX3) hX dX4_init_15 (by decide +kernel) hX.2.2.2.2.2.2.2.2.2.2.1.2.1 rfl (by decide) l4 (by decide) rfl l5 hz1.z hz1.f (by decide) (by decide) (fun q2 => ?_)
  have e2 : upA (upA (evA (xV X)) (a + 1) q1) (a + 1 + 1) q2 a = evA (xV X) a := (upA_ne (by omega)).trans e1
  refine gn_putF (a := a) (ci := 4) (j := 9) hX dX4_init_18 fl_X4_17 ff_4_9 l1 (by omega) e2 (by rw [l12, upA_n]) ?_
  have hz2 : okB (xV X) (zu (zu z a 5) a 9) (a + 1 + 1 + 1) := hz1.up.zu (by omega) (by rw [l12]; omega)
  refine gn_aload_n hX dX4_init_21 0 rfl ?_
  refine gn_sipush (v := 720) hX dX4_init_22 (by decide) ?_
  refine gn_newl (N := 720) hX dX4_init_25 rfl (by decide) l6 l7 hz2.z (hm _ (by omega)).2 (by decide) (by decide) (fun q3 => ?_)
  have e3 : upA (upA (upA (evA (xV X)) (a + 1) q1) (a + 1 + 1) q2) (a + 1 + 1 + 1) q3 a = evA (xV X) a := (upA_ne (by omega)).trans e2
  refine gn_putF (a := a) (ci := 4) (j := 10) hX dX4_init_27 fl_X4_21 ff_4_10 l1 (by omega) e3 (by rw [l13, upA_n]) ?_
  have hz3 : okB (xV X) (zu (zu (zu z a 5) a 9) a 10) (a + 1 + 1 + 1 + 1) := hz2.up.zu (by omega) (by rw [l13]; omega)
  refine gn_aload_n hX dX4_init_30 0 rfl ?_
  refine gn_sipush (v := 720) hX dX4_init_31 (by decide) ?_
  refine gn_newl (N := 720) hX dX4_init_34 rfl (by decide) l8 l9 hz3.z (hm _ (by omega)).2 (by decide) (by decide) (fun q4 => ?_)
  have e4 : upA (upA (upA (upA (evA (xV X)) (a + 1) q1) (a + 1 + 1) q2) (a + 1 + 1 + 1) q3) (a + 1 + 1 + 1 + 1) q4 a = evA (xV X) a := (upA_ne (by omega)).trans e3
  refine gn_putF (a := a) (ci := 4) (j := 11) hX dX4_init_36 fl_X4_25 ff_4_11 l1 (by omega) e4 (by rw [l14, upA_n]) ?_
  have hz4 : okB (xV X) (zu (zu (zu (zu z a 5) a 9) a 10) a 11) (a + 1 + 1 + 1 + 1 + 1) := hz3.up.zu (by omega) (by rw [l14]; omega)
  refine gn_iconst (v := 0) hX dX4_init_39 (by decide) ?_
  refine gn_istore_n hX dX4_init_40 [(1, .int (nI 0)), (0, .ref (evA (xV X) a))] (by rw [h3]; decide) rfl ?_
  exact log_L hX hl h3 hR hz4 (by rw [zu_ne (by omega), zu_ne (by omega), zu_at]) hm 10 0 _ rfl (fun b hb => (upA_ne (by omega)).trans ((upA_ne (by omega)).trans ((upA_ne (by omega)).trans (upA_ne (by omega)))))
