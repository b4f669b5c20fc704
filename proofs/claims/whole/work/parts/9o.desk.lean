/-! the constructors of Yard, Planner, VeneerDesk -/
def zY (z : Zt) : Zt := zu (zu (zu (zu z 7 0) 7 1) 10 3) 7 2
theorem k_X8 {l : Launch} {V : Ev} {μ : Mem} {z : Zt} (hL : V.2.2.2 = lyK) (hz : okB V z 8) (hm : mB μ 8) : KT l V yX8_init cX8_init 2 3 81 5399 [.ref (evA V 7)] μ z 8 (mD μ 8) (zD (zL (zY z) 3) 8) 89 := by
  refine gn_met [(0, .ref (evA V 7))] (by decide) rfl (Nat.le_of_ble_eq_true rfl) rfl (fun X h1 h2 h3 hX hR => ?_)
  subst h2
  have e6 : evK (xV X) 7 = 8 := ekK hL (by decide)
  have r0 : evR (xV X) 7 0 = 8 := erK hL rfl
  have r1 : evR (xV X) 7 1 = 9 := erK hL rfl
  have r2 : evR (xV X) 7 2 = 10 := erK hL rfl
  have r93 : evR (xV X) 10 3 = 11 := erK hL rfl
  refine gn_aload_n hX dX8_init_0 0 rfl ?_
  refine gn_obj hX dX8_init_1 (by decide +kernel) (by decide) (by decide) ?_
  refine gn_aload_n hX dX8_init_4 0 rfl ?_
  refine gn_iconst (v := 3) hX dX8_init_5 (by decide) ?_
  refine gn_newq (N := 3) (kk0 := 15) (t0 := 4) (C := RX4) hX dX8_init_6 (by decide +kernel) hX.2.2.2.2.2.2.2.2.2.2.1.2.2 rfl (by decide) (ekK hL (by decide)) (by decide) rfl (elK hL (by decide)) hz.z hz.f (by decide) (by decide) (fun q1 => ?_)
  have a1 : upA (evA (xV X)) 8 q1 7 = evA (xV X) 7 := upA_ne (by decide)
  refine gn_putF (a := 7) (ci := 8) (j := 0) hX dX8_init_9 fl_X8_11 ff_8_0 e6 (by decide) a1 (by rw [r0, upA_n]) ?_
  have hz1 : okB (xV X) (zu z 7 0) 9 := hz.up.zu (by decide) (by rw [r0]; decide)
  refine gn_aload_n hX dX8_init_12 0 rfl ?_
  refine gn_bipush (v := 8) hX dX8_init_13 (by decide) ?_
  refine gn_newq (N := 8) (kk0 := 13) (t0 := 2) (C := RX0) hX dX8_init_15 (by decide +kernel) hX.2.2.2.2.2.2.2.2.2.2.1.1 rfl (by decide) (ekK hL (by decide)) (by decide) rfl (elK hL (by decide)) hz1.z hz1.f (by decide) (by decide) (fun q2 => ?_)
  have a2 : upA (upA (evA (xV X)) 8 q1) 9 q2 7 = evA (xV X) 7 := (upA_ne (by decide)).trans a1
  refine gn_putF (a := 7) (ci := 8) (j := 1) hX dX8_init_18 fl_X8_19 ff_8_1 e6 (by decide) a2 (by rw [r1, upA_n]) ?_
  have hz2 : okB (xV X) (zu (zu z 7 0) 7 1) 10 := hz1.up.zu (by decide) (by rw [r1]; decide)
  refine gn_aload_n hX dX8_init_21 0 rfl ?_
  refine gn_new (ci := 2) hX dX8_init_22 nw_X8_23 (ekK hL (by decide)) hz2.z (hm.to (show 8 ≤ 10 by decide)).z hz2.f (by decide) (by decide) (fun q3 => ?_)
  refine gn_dup hX dX8_init_25 rfl ?_
  refine gn_initN (As := []) (rest := [.ref q3, .ref (evA (xV X) 7)]) (b := q3) (mcc := 1) (msc := 10) hX dX8_init_26 (by
    have := k_X2 (l := xl X) (V := sA (xV X) (upA (upA (upA (evA (xV X)) 8 q1) 9 q2) 10 q3)) (a := 10) (μ := μ) (z := zu (zu z 7 0) 7 1) (ekK hL (by decide)) (ekK hL (by decide)) (elK hL (by decide)) r93 hz2.up (hm.to (by decide))
    have e : evA (sA (xV X) (upA (upA (upA (evA (xV X)) 8 q1) 9 q2) 10 q3)) 10 = q3 := (show upA (upA (upA (evA (xV X)) 8 q1) 9 q2) 10 q3 10 = q3 from upA_n)
    rw [e] at this
    exact this) mwI_X2 imI_X2 rfl (by decide) rfl rfl (by decide) (by decide) (Nat.le_of_ble_eq_true rfl) (by decide) (by decide) (fun ad2 ha2 => ?_)
  have a3 : ad2 7 = evA (xV X) 7 := (ha2 7 (by decide)).trans ((upA_ne (by decide)).trans a2)
  have a9 : ad2 10 = q3 := (ha2 10 (by decide)).trans upA_n
  refine gn_putF (a := 7) (ci := 8) (j := 2) hX dX8_init_29 fl_X8_26 ff_8_2 e6 (by decide) a3 (by rw [r2]; exact a9) ?_
  have hz3 : okB (xV X) (zY z) 12 := ((hz2.to (show 10 ≤ 12 by decide)).zu (by decide) (by rw [r93]; decide)).zu (by decide) (by rw [r2]; decide)
  refine gn_iconst (v := 0) hX dX8_init_32 (by decide) ?_
  refine gn_istore_n hX dX8_init_33 [(1, .int (nI 0)), (0, .ref (evA (xV X) 7))] (by rw [h3]; decide) rfl ?_
  exact yard_L hX hL h3 hR hz3 rfl rfl (hm.to (by decide)) 3 0 ad2 rfl (fun b hb => (ha2 b (by omega)).trans ((upA_ne (by omega)).trans ((upA_ne (by omega)).trans (upA_ne (by omega)))))
/-- Planner(): a Yard comes, four rows; told is filled -/
def zP (z : Zt) : Zt := zu (zu (zu (zu (zu (zD (zL (zY z) 3) 8) 6 0) 6 1) 6 2) 6 3) 6 4
theorem okB_Y {V : Ev} {z : Zt} (hL : V.2.2.2 = lyK) (hz : okB V z 8) : okB V (zD (zL (zY z) 3) 8) 89 := by
  have r93 : evR V 10 3 = 11 := erK hL rfl
  have r60 : evR V 7 0 = 8 := erK hL rfl
  have r61 : evR V 7 1 = 9 := erK hL rfl
  have r62 : evR V 7 2 = 10 := erK hL rfl
  have hzY : okB V (zY z) 12 := ((((hz.to (show 8 ≤ 12 by decide)).zu (by decide) (by rw [r60]; decide)).zu (by decide) (by rw [r61]; decide)).zu (by decide) (by rw [r93]; decide)).zu (by decide) (by rw [r62]; decide)
  exact okB_zD hL (okB_zL hL hzY 3 (by decide)) 8 (by decide)
theorem k_X5 {l : Launch} {V : Ev} {μ : Mem} {z : Zt} (hL : V.2.2.2 = lyK) (hz : okB V z 7) (hm : mB μ 7) : KT l V yX5_init cX5_init 1 4 86 5419 [.ref (evA V 6)] μ z 7 (fillF (mD μ 8) 89 (-1) 8) (zP z) 93 := by
  refine gn_met [(0, .ref (evA V 6))] (by decide) rfl (Nat.le_of_ble_eq_true rfl) rfl (fun X h1 h2 h3 hX hR => ?_)
  subst h2
  have e6 : evK (xV X) 6 = 5 := ekK hL (by decide)
  have r0 : evR (xV X) 6 0 = 7 := erK hL rfl
  have r1 : evR (xV X) 6 1 = 89 := erK hL rfl
  have r2 : evR (xV X) 6 2 = 90 := erK hL rfl
  have r3 : evR (xV X) 6 3 = 91 := erK hL rfl
  have r4 : evR (xV X) 6 4 = 92 := erK hL rfl
  refine gn_aload_n hX dX5_init_0 0 rfl ?_
  refine gn_obj hX dX5_init_1 (by decide +kernel) (by decide) (by decide) ?_
  refine gn_aload_n hX dX5_init_4 0 rfl ?_
  refine gn_new (ci := 8) hX dX5_init_5 nw_X5_9 (ekK hL (by decide)) hz.z hm.z hz.f (by decide) (by decide) (fun q0 => ?_)
  refine gn_dup hX dX5_init_8 rfl ?_
  refine gn_init (As := []) (rest := [.ref q0, .ref (evA (xV X) 6)]) (b := q0) (mcc := 81) (msc := 5399) hX dX5_init_9 (by
    have := k_X8 (l := xl X) (V := sA (xV X) (upA (evA (xV X)) 7 q0)) (μ := μ) (z := z) hL hz.up hm.up
    have e : evA (sA (xV X) (upA (evA (xV X)) 7 q0)) 7 = q0 := (show upA (evA (xV X)) 7 q0 7 = q0 from upA_n)
    rw [e] at this
    exact this) mwI_X8 imI_X8 rfl (by decide +kernel) rfl rfl (by decide) (by decide) (Nat.le_of_ble_eq_true rfl) (by decide) (by decide) (fun ad1 ha1 => ?_)
  have a0 : ad1 6 = evA (xV X) 6 := (ha1 6 (by decide)).trans (upA_ne (by decide))
  have t0 : ad1 7 = q0 := (ha1 7 (by decide)).trans upA_n
  refine gn_putF (a := 6) (ci := 5) (j := 0) hX dX5_init_12 fl_X5_12 ff_5_0 e6 (by decide) a0 (by rw [r0]; exact t0) ?_
  have hz0 : okB (xV X) (zu (zD (zL (zY z) 3) 8) 6 0) 89 := (okB_Y hL hz.up).zu (by decide) (by rw [r0]; decide)
  have hm0 : mB (mD μ 8) 89 := mB_mD (hm.to (by decide)) 8 (by decide)
  refine gn_aload_n hX dX5_init_15 0 rfl ?_
  refine gn_bipush (v := 8) hX dX5_init_16 (by decide) ?_
  refine gn_newi (N := 8) hX dX5_init_18 rfl (by decide) (ekK hL (by decide)) (elK hL (by decide)) hz0.z (hm0 _ (by decide)).1 (by decide) (by decide) (fun q1 => ?_)
  have a1 : upA ad1 89 q1 6 = evA (xV X) 6 := (upA_ne (by decide)).trans a0
  have c1 : upA ad1 89 q1 89 = q1 := upA_n
  refine gn_putF (a := 6) (ci := 5) (j := 1) hX dX5_init_20 fl_X5_18 ff_5_1 e6 (by decide) a1 (by rw [r1, upA_n]) ?_
  have hz1 : okB (xV X) (zu (zu (zD (zL (zY z) 3) 8) 6 0) 6 1) 90 := hz0.up.zu (by decide) (by rw [r1]; decide)
  refine gn_aload_n hX dX5_init_23 0 rfl ?_
  refine gn_iconst (v := 3) hX dX5_init_24 (by decide) ?_
  refine gn_newi (N := 3) hX dX5_init_25 rfl (by decide) (ekK hL (by decide)) (elK hL (by decide)) hz1.z (hm0 _ (by decide)).1 (by decide) (by decide) (fun q2 => ?_)
  have a2 : upA (upA ad1 89 q1) 90 q2 6 = evA (xV X) 6 := (upA_ne (by decide)).trans a1
  have c2 : upA (upA ad1 89 q1) 90 q2 89 = q1 := (upA_ne (by decide)).trans c1
  refine gn_putF (a := 6) (ci := 5) (j := 2) hX dX5_init_27 fl_X5_22 ff_5_2 e6 (by decide) a2 (by rw [r2, upA_n]) ?_
  have hz2 : okB (xV X) (zu (zu (zu (zD (zL (zY z) 3) 8) 6 0) 6 1) 6 2) 91 := hz1.up.zu (by decide) (by rw [r2]; decide)
  refine gn_aload_n hX dX5_init_30 0 rfl ?_
  refine gn_iconst (v := 3) hX dX5_init_31 (by decide) ?_
  refine gn_newi (N := 3) hX dX5_init_32 rfl (by decide) (ekK hL (by decide)) (elK hL (by decide)) hz2.z (hm0 _ (by decide)).1 (by decide) (by decide) (fun q3 => ?_)
  have a3 : upA (upA (upA ad1 89 q1) 90 q2) 91 q3 6 = evA (xV X) 6 := (upA_ne (by decide)).trans a2
  have c3 : upA (upA (upA ad1 89 q1) 90 q2) 91 q3 89 = q1 := (upA_ne (by decide)).trans c2
  refine gn_putF (a := 6) (ci := 5) (j := 3) hX dX5_init_34 fl_X5_25 ff_5_3 e6 (by decide) a3 (by rw [r3, upA_n]) ?_
  have hz3 : okB (xV X) (zu (zu (zu (zu (zD (zL (zY z) 3) 8) 6 0) 6 1) 6 2) 6 3) 92 := hz2.up.zu (by decide) (by rw [r3]; decide)
  refine gn_aload_n hX dX5_init_37 0 rfl ?_
  refine gn_iconst (v := 3) hX dX5_init_38 (by decide) ?_
  refine gn_newi (N := 3) hX dX5_init_39 rfl (by decide) (ekK hL (by decide)) (elK hL (by decide)) hz3.z (hm0 _ (by decide)).1 (by decide) (by decide) (fun q4 => ?_)
  have a4 : upA (upA (upA (upA ad1 89 q1) 90 q2) 91 q3) 92 q4 6 = evA (xV X) 6 := (upA_ne (by decide)).trans a3
  have c4 : upA (upA (upA (upA ad1 89 q1) 90 q2) 91 q3) 92 q4 89 = q1 := (upA_ne (by decide)).trans c3
  refine gn_putF (a := 6) (ci := 5) (j := 4) hX dX5_init_41 fl_X5_28 ff_5_4 e6 (by decide) a4 (by rw [r4, upA_n]) ?_
  refine gn_aload_n hX dX5_init_44 0 rfl ?_
  refine gn_getR (a := 6) (ci := 5) (j := 1) hX dX5_init_45 fl_X5_18 e6 (by decide) a4 rfl ?_
  rw [r1]
  refine gn_iconst (v := -1) hX dX5_init_48 (by decide) ?_
  refine gn_fill (p := 89) (N := 8) hX dX5_init_49 ml_X5_31 (ekK hL (by decide)) (elK hL (by decide)) (by decide) (by decide) rfl (by decide) (by decide) (by decide) (by decide) ?_
  exact gn_ret hX hR (fun b hb => (upA_ne (by omega)).trans ((upA_ne (by omega)).trans ((upA_ne (by omega)).trans ((upA_ne (by omega)).trans ((ha1 b (by omega)).trans (upA_ne (by omega))))))) (by decide) (by decide) dX5_init_52
/-- what is set, and what is written, once all is made -/
def zX1 (z : Zt) : Zt := zu (zu (zR z) 0 0) 0 1
def zX (z : Zt) : Zt := zu (zu (zP (zX1 z)) 0 2) 0 3
def mK (μ : Mem) : Mem := fillF (mD (sI μ 1 3 (-1)) 8) 89 (-1) 8
theorem k_X9 {l : Launch} {V : Ev} {μ : Mem} {z : Zt} (hL : V.2.2.2 = lyK) (hz : okB V z 1) (hm : mB μ 1) : KT l V yX9_init cX9_init 1 5 92 5902 [.ref (evA V 0)] μ z 1 (mK μ) (zX z) 93 := by
  refine gn_met [(0, .ref (evA V 0))] (by decide) rfl (Nat.le_of_ble_eq_true rfl) rfl (fun X h1 h2 h3 hX hR => ?_)
  subst h2
  have e0 : evK (xV X) 0 = 9 := ekK hL (by decide)
  have r0 : evR (xV X) 0 0 = 1 := erK hL rfl
  have r1 : evR (xV X) 0 1 = 2 := erK hL rfl
  have r2 : evR (xV X) 0 2 = 6 := erK hL rfl
  have r3 : evR (xV X) 0 3 = 7 := erK hL rfl
  have r10 : evR (xV X) 1 0 = 2 := erK hL rfl
  have r11 : evR (xV X) 1 1 = 4 := erK hL rfl
  have r20 : evR (xV X) 2 0 = 3 := erK hL rfl
  have r40 : evR (xV X) 4 0 = 5 := erK hL rfl
  have r60 : evR (xV X) 6 0 = 7 := erK hL rfl
  refine gn_aload_n hX dX9_init_0 0 rfl ?_
  refine gn_obj hX dX9_init_1 (by decide +kernel) (by decide) (by decide) ?_
  refine gn_aload_n hX dX9_init_4 0 rfl ?_
  refine gn_new (ci := 6) hX dX9_init_5 nw_X9_7 (ekK hL (by decide)) hz.z hm.z hz.f (by decide) (by decide) (fun q1 => ?_)
  refine gn_dup hX dX9_init_8 rfl ?_
  refine gn_initN (As := []) (rest := [.ref q1, .ref (evA (xV X) 0)]) (b := q1) (mcc := 4) (msc := 469) hX dX9_init_9 (by
    have := k_X6 (l := xl X) (V := sA (xV X) (upA (evA (xV X)) 1 q1)) (μ := μ) (z := z) hL hz.up hm.up
    have e : evA (sA (xV X) (upA (evA (xV X)) 1 q1)) 1 = q1 := (show upA (evA (xV X)) 1 q1 1 = q1 from upA_n)
    rw [e] at this
    exact this) mwI_X6 imI_X6 rfl (by decide) rfl rfl (by decide) (by decide) (Nat.le_of_ble_eq_true rfl) (by decide) (by decide) (fun ad1 ha1 => ?_)
  have a1 : ad1 0 = evA (xV X) 0 := (ha1 0 (by decide)).trans (upA_ne (by decide))
  have t1 : ad1 1 = q1 := (ha1 1 (by decide)).trans upA_n
  refine gn_putF (a := 0) (ci := 9) (j := 0) hX dX9_init_12 fl_X9_10 ff_9_0 e0 (by decide) a1 (by rw [r0]; exact t1) ?_
  refine gn_aload_n hX dX9_init_15 0 rfl ?_
  refine gn_aload_n hX dX9_init_16 0 rfl ?_
  refine gn_getR (a := 0) (ci := 9) (j := 0) hX dX9_init_17 fl_X9_10 e0 (by decide) a1 zu_at ?_
  rw [r0]
  refine gn_getR (a := 1) (ci := 6) (j := 0) hX dX9_init_20 fl_X9_16 (ekK hL (by decide)) (by decide) rfl rfl ?_
  rw [r10]
  refine gn_putF (a := 0) (ci := 9) (j := 1) hX dX9_init_23 fl_X9_20 ff_9_1 e0 (by decide) a1 (by rw [r1]) ?_
  have hz1 : okB (xV X) (zX1 z) 6 := ((((((hz.to (show 1 ≤ 6 by decide)).zu (by decide) (by rw [r20]; decide)).zu (by decide) (by rw [r10]; decide)).zu (by decide) (by rw [r40]; decide)).zu (by decide) (by rw [r11]; decide)).zu (by decide) (by rw [r0]; decide)).zu (by decide) (by rw [r1]; decide)
  have hm1 : mB (sI μ 1 3 (-1)) 6 := (hm.to (show 1 ≤ 6 by decide)).sI (by decide)
  refine gn_aload_n hX dX9_init_26 0 rfl ?_
  refine gn_new (ci := 5) hX dX9_init_27 nw_X9_21 (ekK hL (by decide)) hz1.z hm1.z hz1.f (by decide) (by decide) (fun q2 => ?_)
  refine gn_dup hX dX9_init_30 rfl ?_
  refine gn_init (As := []) (rest := [.ref q2, .ref (evA (xV X) 0)]) (b := q2) (mcc := 86) (msc := 5419) hX dX9_init_31 (by
    have := k_X5 (l := xl X) (V := sA (xV X) (upA ad1 6 q2)) (μ := sI μ 1 3 (-1)) (z := zX1 z) hL hz1.up hm1.up
    have e : evA (sA (xV X) (upA ad1 6 q2)) 6 = q2 := (show upA ad1 6 q2 6 = q2 from upA_n)
    rw [e] at this
    exact this) mwI_X5 imI_X5 rfl (by decide +kernel) rfl rfl (by decide) (by decide) (Nat.le_of_ble_eq_true rfl) (by decide) (by decide) (fun ad2 ha2 => ?_)
  have a2 : ad2 0 = evA (xV X) 0 := (ha2 0 (by decide)).trans ((upA_ne (by decide)).trans a1)
  have t2 : ad2 6 = q2 := (ha2 6 (by decide)).trans upA_n
  refine gn_putF (a := 0) (ci := 9) (j := 2) hX dX9_init_34 fl_X9_24 ff_9_2 e0 (by decide) a2 (by rw [r2]; exact t2) ?_
  refine gn_aload_n hX dX9_init_37 0 rfl ?_
  refine gn_aload_n hX dX9_init_38 0 rfl ?_
  refine gn_getR (a := 0) (ci := 9) (j := 2) hX dX9_init_39 fl_X9_24 e0 (by decide) a2 zu_at ?_
  rw [r2]
  refine gn_getR (a := 6) (ci := 5) (j := 0) hX dX9_init_42 fl_X9_28 (ekK hL (by decide)) (by decide) rfl rfl ?_
  rw [r60]
  refine gn_putF (a := 0) (ci := 9) (j := 3) hX dX9_init_45 fl_X9_32 ff_9_3 e0 (by decide) a2 (by rw [r3]) ?_
  refine gn_ret hX hR (fun b hb => ?_) (by decide) (by decide) dX9_init_48
  have : b = 0 := by omega
  rw [this]; exact a2
