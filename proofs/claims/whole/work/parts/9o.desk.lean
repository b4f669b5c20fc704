/-! the constructors of Yard, Planner, VeneerDesk -/
def zY (z : Zt) : Zt := zu (zu (zu (zu z 6 0) 6 1) 9 3) 6 2
theorem k_X8 {l : Launch} {V : Ev} {μ : Mem} {z : Zt} (hL : V.2.2.2 = lyC) (hz : okB V z 7) (hm : mB μ 7) : KT l V yX8_init cX8_init 2 3 81 5399 [.ref (evA V 6)] μ z 7 (mD μ 8) (zD (zL (zY z) 3) 8) 88 := by
  refine gn_met [(0, .ref (evA V 6))] (by decide) rfl (Nat.le_of_ble_eq_true rfl) rfl (fun X h1 h2 h3 hX hR => ?_)
  subst h2
  have e6 : evK (xV X) 6 = 8 := ekC hL (by decide)
  have r0 : evR (xV X) 6 0 = 7 := erC hL rfl
  have r1 : evR (xV X) 6 1 = 8 := erC hL rfl
  have r2 : evR (xV X) 6 2 = 9 := erC hL rfl
  have r93 : evR (xV X) 9 3 = 10 := erC hL rfl
  refine gn_aload_n hX dX8_init_0 0 rfl ?_
  refine gn_obj hX dX8_init_1 (by decide +kernel) (by decide) (by decide) ?_
  refine gn_aload_n hX dX8_init_4 0 rfl ?_
  refine gn_iconst (v := 3) hX dX8_init_5 (by decide) ?_
  refine gn_newq (N := 3) (kk0 := 15) (t0 := 4) (C := RX4) hX dX8_init_6 (by decide +kernel) hX.2.2.2.2.2.2.2.2.2.2.1.2.2 rfl (by decide) (ekC hL (by decide)) (by decide) rfl (elC hL (by decide)) hz.z hz.f (by decide) (by decide) (fun q1 => ?_)
  have a1 : upA (evA (xV X)) 7 q1 6 = evA (xV X) 6 := upA_ne (by decide)
  refine gn_putF (a := 6) (ci := 8) (j := 0) hX dX8_init_9 fl_X8_11 ff_8_0 e6 (by decide) a1 (by rw [r0, upA_n]) ?_
  have hz1 : okB (xV X) (zu z 6 0) 8 := hz.up.zu (by decide) (by rw [r0]; decide)
  refine gn_aload_n hX dX8_init_12 0 rfl ?_
  refine gn_bipush (v := 8) hX dX8_init_13 (by decide) ?_
  refine gn_newq (N := 8) (kk0 := 13) (t0 := 2) (C := RX0) hX dX8_init_15 (by decide +kernel) hX.2.2.2.2.2.2.2.2.2.2.1.1 rfl (by decide) (ekC hL (by decide)) (by decide) rfl (elC hL (by decide)) hz1.z hz1.f (by decide) (by decide) (fun q2 => ?_)
  have a2 : upA (upA (evA (xV X)) 7 q1) 8 q2 6 = evA (xV X) 6 := (upA_ne (by decide)).trans a1
  refine gn_putF (a := 6) (ci := 8) (j := 1) hX dX8_init_18 fl_X8_19 ff_8_1 e6 (by decide) a2 (by rw [r1, upA_n]) ?_
  have hz2 : okB (xV X) (zu (zu z 6 0) 6 1) 9 := hz1.up.zu (by decide) (by rw [r1]; decide)
  refine gn_aload_n hX dX8_init_21 0 rfl ?_
  refine gn_new (ci := 2) hX dX8_init_22 nw_X8_23 (ekC hL (by decide)) hz2.z (hm.to (show 7 ≤ 9 by decide)).z hz2.f (by decide) (by decide) (fun q3 => ?_)
  refine gn_dup hX dX8_init_25 rfl ?_
  refine gn_initN (As := []) (rest := [.ref q3, .ref (evA (xV X) 6)]) (b := q3) (mcc := 1) (msc := 10) hX dX8_init_26 (by
    have := k_X2 (l := xl X) (V := sA (xV X) (upA (upA (upA (evA (xV X)) 7 q1) 8 q2) 9 q3)) (a := 9) (μ := μ) (z := zu (zu z 6 0) 6 1) (ekC hL (by decide)) (ekC hL (by decide)) (elC hL (by decide)) r93 hz2.up (hm.to (by decide))
    have e : evA (sA (xV X) (upA (upA (upA (evA (xV X)) 7 q1) 8 q2) 9 q3)) 9 = q3 := (show upA (upA (upA (evA (xV X)) 7 q1) 8 q2) 9 q3 9 = q3 from upA_n)
    rw [e] at this
    exact this) mwI_X2 imI_X2 rfl (by decide) rfl rfl (by decide) (by decide) (Nat.le_of_ble_eq_true rfl) (by decide) (by decide) (fun ad2 ha2 => ?_)
  have a3 : ad2 6 = evA (xV X) 6 := (ha2 6 (by decide)).trans ((upA_ne (by decide)).trans a2)
  have a9 : ad2 9 = q3 := (ha2 9 (by decide)).trans upA_n
  refine gn_putF (a := 6) (ci := 8) (j := 2) hX dX8_init_29 fl_X8_26 ff_8_2 e6 (by decide) a3 (by rw [r2]; exact a9) ?_
  have hz3 : okB (xV X) (zY z) 11 := ((hz2.to (show 9 ≤ 11 by decide)).zu (by decide) (by rw [r93]; decide)).zu (by decide) (by rw [r2]; decide)
  refine gn_iconst (v := 0) hX dX8_init_32 (by decide) ?_
  refine gn_istore_n hX dX8_init_33 [(1, .int (nI 0)), (0, .ref (evA (xV X) 6))] (by rw [h3]; decide) rfl ?_
  exact yard_L hX hL h3 hR hz3 rfl rfl (hm.to (by decide)) 3 0 ad2 rfl (fun b hb => (ha2 b (by omega)).trans ((upA_ne (by omega)).trans ((upA_ne (by omega)).trans (upA_ne (by omega)))))
def zP (z : Zt) : Zt := zu (zu (zu (zu (zu z 88 0) 88 2) 88 3) 88 4) 88 1
theorem k_X5 {l : Launch} {V : Ev} {μ : Mem} {z : Zt} (hL : V.2.2.2 = lyC) (hz : okB V z 89) (hm : mB μ 89) : KT l V yX5_init cX5_init 2 1 4 17 [.ref (evA V 88), .ref (evA V 6)] μ z 89 (fillF μ 89 (-1) 8) (zP z) 93 := by
  refine gn_met [(0, .ref (evA V 88)), (1, .ref (evA V 6))] (by decide) rfl (Nat.le_of_ble_eq_true rfl) rfl (fun X h1 h2 h3 hX hR => ?_)
  subst h2
  have e88 : evK (xV X) 88 = 5 := ekC hL (by decide)
  have r0 : evR (xV X) 88 0 = 89 := erC hL rfl
  have r1 : evR (xV X) 88 1 = 6 := erC hL rfl
  have r2 : evR (xV X) 88 2 = 90 := erC hL rfl
  have r3 : evR (xV X) 88 3 = 91 := erC hL rfl
  have r4 : evR (xV X) 88 4 = 92 := erC hL rfl
  refine gn_aload_n hX dX5_init_0 0 rfl ?_
  refine gn_obj hX dX5_init_1 (by decide +kernel) (by decide) (by decide) ?_
  refine gn_aload_n hX dX5_init_4 0 rfl ?_
  refine gn_bipush (v := 8) hX dX5_init_5 (by decide) ?_
  refine gn_newi (N := 8) hX dX5_init_7 rfl (by decide) (ekC hL (by decide)) (elC hL (by decide)) hz.z (hm _ (by decide)).1 (by decide) (by decide) (fun q1 => ?_)
  have a1 : upA (evA (xV X)) 89 q1 88 = evA (xV X) 88 := upA_ne (by decide)
  have b1 : upA (evA (xV X)) 89 q1 6 = evA (xV X) 6 := upA_ne (by decide)
  have c1 : upA (evA (xV X)) 89 q1 89 = q1 := upA_n
  refine gn_putF (a := 88) (ci := 5) (j := 0) hX dX5_init_9 fl_X5_9 ff_5_0 e88 (by decide) a1 (by rw [r0, upA_n]) ?_
  have hz1 : okB (xV X) (zu z 88 0) 90 := hz.up.zu (by decide) (by rw [r0]; decide)
  refine gn_aload_n hX dX5_init_12 0 rfl ?_
  refine gn_iconst (v := 3) hX dX5_init_13 (by decide) ?_
  refine gn_newi (N := 3) hX dX5_init_14 rfl (by decide) (ekC hL (by decide)) (elC hL (by decide)) hz1.z (hm _ (by decide)).1 (by decide) (by decide) (fun q2 => ?_)
  have a2 : upA (upA (evA (xV X)) 89 q1) 90 q2 88 = evA (xV X) 88 := (upA_ne (by decide)).trans a1
  have b2 : upA (upA (evA (xV X)) 89 q1) 90 q2 6 = evA (xV X) 6 := (upA_ne (by decide)).trans b1
  have c2 : upA (upA (evA (xV X)) 89 q1) 90 q2 89 = q1 := (upA_ne (by decide)).trans c1
  refine gn_putF (a := 88) (ci := 5) (j := 2) hX dX5_init_16 fl_X5_15 ff_5_2 e88 (by decide) a2 (by rw [r2, upA_n]) ?_
  have hz2 : okB (xV X) (zu (zu z 88 0) 88 2) 91 := hz1.up.zu (by decide) (by rw [r2]; decide)
  refine gn_aload_n hX dX5_init_19 0 rfl ?_
  refine gn_iconst (v := 3) hX dX5_init_20 (by decide) ?_
  refine gn_newi (N := 3) hX dX5_init_21 rfl (by decide) (ekC hL (by decide)) (elC hL (by decide)) hz2.z (hm _ (by decide)).1 (by decide) (by decide) (fun q3 => ?_)
  have a3 : upA (upA (upA (evA (xV X)) 89 q1) 90 q2) 91 q3 88 = evA (xV X) 88 := (upA_ne (by decide)).trans a2
  have b3 : upA (upA (upA (evA (xV X)) 89 q1) 90 q2) 91 q3 6 = evA (xV X) 6 := (upA_ne (by decide)).trans b2
  have c3 : upA (upA (upA (evA (xV X)) 89 q1) 90 q2) 91 q3 89 = q1 := (upA_ne (by decide)).trans c2
  refine gn_putF (a := 88) (ci := 5) (j := 3) hX dX5_init_23 fl_X5_18 ff_5_3 e88 (by decide) a3 (by rw [r3, upA_n]) ?_
  have hz3 : okB (xV X) (zu (zu (zu z 88 0) 88 2) 88 3) 92 := hz2.up.zu (by decide) (by rw [r3]; decide)
  refine gn_aload_n hX dX5_init_26 0 rfl ?_
  refine gn_iconst (v := 3) hX dX5_init_27 (by decide) ?_
  refine gn_newi (N := 3) hX dX5_init_28 rfl (by decide) (ekC hL (by decide)) (elC hL (by decide)) hz3.z (hm _ (by decide)).1 (by decide) (by decide) (fun q4 => ?_)
  have a4 : upA (upA (upA (upA (evA (xV X)) 89 q1) 90 q2) 91 q3) 92 q4 88 = evA (xV X) 88 := (upA_ne (by decide)).trans a3
  have b4 : upA (upA (upA (upA (evA (xV X)) 89 q1) 90 q2) 91 q3) 92 q4 6 = evA (xV X) 6 := (upA_ne (by decide)).trans b3
  have c4 : upA (upA (upA (upA (evA (xV X)) 89 q1) 90 q2) 91 q3) 92 q4 89 = q1 := (upA_ne (by decide)).trans c3
  refine gn_putF (a := 88) (ci := 5) (j := 4) hX dX5_init_30 fl_X5_21 ff_5_4 e88 (by decide) a4 (by rw [r4, upA_n]) ?_
  refine gn_aload_n hX dX5_init_33 0 rfl ?_
  refine gn_aload_n hX dX5_init_34 1 rfl ?_
  refine gn_putF (a := 88) (ci := 5) (j := 1) hX dX5_init_35 fl_X5_24 ff_5_1 e88 (by decide) a4 (by rw [r1]; exact b4) ?_
  refine gn_aload_n hX dX5_init_38 0 rfl ?_
  refine gn_getR (a := 88) (ci := 5) (j := 0) hX dX5_init_39 fl_X5_9 e88 (by decide) a4 rfl ?_
  rw [r0]
  refine gn_iconst (v := -1) hX dX5_init_42 (by decide) ?_
  refine gn_fill (p := 89) (N := 8) hX dX5_init_43 ml_X5_28 (ekC hL (by decide)) (elC hL (by decide)) (by decide) (by decide) rfl (by decide) (by decide) (by decide) (by decide) ?_
  exact gn_ret hX hR (fun b hb => (upA_ne (by omega)).trans ((upA_ne (by omega)).trans ((upA_ne (by omega)).trans (upA_ne (by omega))))) (by decide) (by decide) dX5_init_46
/-- what is set, and what is written, once all is made -/
def zX1 (z : Zt) : Zt := zu (zu z 1 0) 0 0
def zX2 (z : Zt) : Zt := zu (zu (zu (zu z 4 0) 3 0) 3 3) 0 1
def zX3 (z : Zt) : Zt := zu (zD (zL (zY z) 3) 8) 0 2
def zX4 (z : Zt) : Zt := zu (zP z) 0 3
def zX (z : Zt) : Zt := zX4 (zX3 (zX2 (zX1 z)))
def mX (μ : Mem) : Mem := fillF (mD (sI μ 3 2 (-1)) 8) 89 (-1) 8
theorem k_X9 {l : Launch} {V : Ev} {μ : Mem} {z : Zt} (hL : V.2.2.2 = lyC) (hz : okB V z 1) (hm : mB μ 1) : KT l V yX9_init cX9_init 1 4 92 5902 [.ref (evA V 0)] μ z 1 (mX μ) (zX z) 93 := by
  refine gn_met [(0, .ref (evA V 0))] (by decide) rfl (Nat.le_of_ble_eq_true rfl) rfl (fun X h1 h2 h3 hX hR => ?_)
  subst h2
  have e0 : evK (xV X) 0 = 9 := ekC hL (by decide)
  have r0 : evR (xV X) 0 0 = 1 := erC hL rfl
  have r1 : evR (xV X) 0 1 = 3 := erC hL rfl
  have r2 : evR (xV X) 0 2 = 6 := erC hL rfl
  have r3 : evR (xV X) 0 3 = 88 := erC hL rfl
  refine gn_aload_n hX dX9_init_0 0 rfl ?_
  refine gn_obj hX dX9_init_1 (by decide +kernel) (by decide) (by decide) ?_
  refine gn_aload_n hX dX9_init_4 0 rfl ?_
  refine gn_new (ci := 7) hX dX9_init_5 nw_X9_7 (ekC hL (by decide)) hz.z hm.z hz.f (by decide) (by decide) (fun q1 => ?_)
  refine gn_dup hX dX9_init_8 rfl ?_
  have r10 : evR (xV X) 1 0 = 2 := erC hL rfl
  refine gn_initN (As := []) (rest := [.ref q1, .ref (evA (xV X) 0)]) (b := q1) (mcc := 1) (msc := 400) hX dX9_init_9 (by
    have := k_X7 (l := xl X) (V := sA (xV X) (upA (evA (xV X)) 1 q1)) (a := 1) (μ := μ) (z := z) (ekC hL (by decide)) (ekC hL (by decide)) (elC hL (by decide)) r10 hz.up hm.up
    have e : evA (sA (xV X) (upA (evA (xV X)) 1 q1)) 1 = q1 := (show upA (evA (xV X)) 1 q1 1 = q1 from upA_n)
    rw [e] at this
    exact this) mwI_X7 imI_X7 rfl (by decide) rfl rfl (by decide) (by decide) (Nat.le_of_ble_eq_true rfl) (by decide) (by decide) (fun ad1 ha1 => ?_)
  have a1 : ad1 0 = evA (xV X) 0 := (ha1 0 (by decide)).trans (upA_ne (by decide))
  have t1 : ad1 1 = q1 := (ha1 1 (by decide)).trans upA_n
  refine gn_putF (a := 0) (ci := 9) (j := 0) hX dX9_init_12 fl_X9_10 ff_9_0 e0 (by decide) a1 (by rw [r0]; exact t1) ?_
  have hz1 : okB (xV X) (zX1 z) 3 := ((hz.to (show 1 ≤ 3 by decide)).zu (by decide) (by rw [r10]; decide)).zu (by decide) (by rw [r0]; decide)
  have hm1 : mB μ 3 := hm.to (by decide)
  refine gn_aload_n hX dX9_init_15 0 rfl ?_
  refine gn_new (ci := 6) hX dX9_init_16 nw_X9_16 (ekC hL (by decide)) hz1.z hm1.z hz1.f (by decide) (by decide) (fun q2 => ?_)
  refine gn_dup hX dX9_init_19 rfl ?_
  refine gn_aload_n hX dX9_init_20 0 rfl ?_
  have a2 : upA ad1 3 q2 0 = evA (xV X) 0 := (upA_ne (by decide)).trans a1
  refine gn_getR (a := 0) (ci := 9) (j := 0) hX dX9_init_21 fl_X9_10 e0 (by decide) a2 rfl ?_
  rw [r0]
  have r30 : evR (xV X) 3 0 = 4 := erC hL rfl
  have r33 : evR (xV X) 3 3 = 1 := erC hL rfl
  have r40 : evR (xV X) 4 0 = 5 := erC hL rfl
  refine gn_init (As := [.ref (upA ad1 3 q2 1)]) (rest := [.ref q2, .ref (evA (xV X) 0)]) (b := q2) (mcc := 2) (msc := 67) hX dX9_init_24 (by
    have := k_X6 (l := xl X) (V := sA (xV X) (upA ad1 3 q2)) (a := 3) (t := 1) (μ := μ) (z := zX1 z) (ekC hL (by decide)) (ekC hL (by decide)) (ekC hL (by decide)) (elC hL (by decide)) r30 r33 r40 (by decide) hz1.up hm1.up
    have e : evA (sA (xV X) (upA ad1 3 q2)) 3 = q2 := (show upA ad1 3 q2 3 = q2 from upA_n)
    rw [e] at this
    exact this) mwI_X6 imI_X6 rfl (by decide +kernel) rfl rfl (by decide) (by decide) (Nat.le_of_ble_eq_true rfl) (by decide) (by decide) (fun ad2 ha2 => ?_)
  have a3 : ad2 0 = evA (xV X) 0 := (ha2 0 (by decide)).trans a2
  have t3 : ad2 3 = q2 := (ha2 3 (by decide)).trans upA_n
  refine gn_putF (a := 0) (ci := 9) (j := 1) hX dX9_init_27 fl_X9_21 ff_9_1 e0 (by decide) a3 (by rw [r1]; exact t3) ?_
  have hz2 : okB (xV X) (zX2 (zX1 z)) 6 := ((((hz1.to (show 3 ≤ 6 by decide)).zu (by decide) (by rw [r40]; decide)).zu (by decide) (by rw [r30]; decide)).zu (by decide) (by rw [r33]; decide)).zu (by decide) (by rw [r1]; decide)
  have hm2 : mB (sI μ 3 2 (-1)) 6 := (hm.to (show 1 ≤ 6 by decide)).sI (by decide)
  refine gn_aload_n hX dX9_init_30 0 rfl ?_
  refine gn_new (ci := 8) hX dX9_init_31 nw_X9_25 (ekC hL (by decide)) hz2.z hm2.z hz2.f (by decide) (by decide) (fun q3 => ?_)
  refine gn_dup hX dX9_init_34 rfl ?_
  refine gn_init (As := []) (rest := [.ref q3, .ref (evA (xV X) 0)]) (b := q3) (mcc := 81) (msc := 5399) hX dX9_init_35 (by
    have := k_X8 (l := xl X) (V := sA (xV X) (upA ad2 6 q3)) (μ := sI μ 3 2 (-1)) (z := zX2 (zX1 z)) hL hz2.up hm2.up
    have e : evA (sA (xV X) (upA ad2 6 q3)) 6 = q3 := (show upA ad2 6 q3 6 = q3 from upA_n)
    rw [e] at this
    exact this) mwI_X8 imI_X8 rfl (by decide +kernel) rfl rfl (by decide) (by decide) (Nat.le_of_ble_eq_true rfl) (by decide) (by decide) (fun ad3 ha3 => ?_)
  have a4 : ad3 0 = evA (xV X) 0 := (ha3 0 (by decide)).trans ((upA_ne (by decide)).trans a3)
  have t4 : ad3 6 = q3 := (ha3 6 (by decide)).trans upA_n
  refine gn_putF (a := 0) (ci := 9) (j := 2) hX dX9_init_38 fl_X9_28 ff_9_2 e0 (by decide) a4 (by rw [r2]; exact t4) ?_
  have r93 : evR (xV X) 9 3 = 10 := erC hL rfl
  have r60 : evR (xV X) 6 0 = 7 := erC hL rfl
  have r61 : evR (xV X) 6 1 = 8 := erC hL rfl
  have r62 : evR (xV X) 6 2 = 9 := erC hL rfl
  have hzY : okB (xV X) (zY (zX2 (zX1 z))) 11 := ((((hz2.to (show 6 ≤ 11 by decide)).zu (by decide) (by rw [r60]; decide)).zu (by decide) (by rw [r61]; decide)).zu (by decide) (by rw [r93]; decide)).zu (by decide) (by rw [r62]; decide)
  have hz3 : okB (xV X) (zX3 (zX2 (zX1 z))) 88 := (okB_zD hL (okB_zL hL hzY 3 (by decide)) 8 (by decide)).zu (by decide) (by rw [r2]; decide)
  have hm3 : mB (mD (sI μ 3 2 (-1)) 8) 88 := mB_mD (hm2.to (by decide)) 8 (by decide)
  refine gn_aload_n hX dX9_init_41 0 rfl ?_
  refine gn_new (ci := 5) hX dX9_init_42 nw_X9_32 (ekC hL (by decide)) hz3.z hm3.z hz3.f (by decide) (by decide) (fun q4 => ?_)
  refine gn_dup hX dX9_init_45 rfl ?_
  refine gn_aload_n hX dX9_init_46 0 rfl ?_
  have a5 : upA ad3 88 q4 0 = evA (xV X) 0 := (upA_ne (by decide)).trans a4
  refine gn_getR (a := 0) (ci := 9) (j := 2) hX dX9_init_47 fl_X9_28 e0 (by decide) a5 zu_at ?_
  rw [r2]
  refine gn_init (As := [.ref (upA ad3 88 q4 6)]) (rest := [.ref q4, .ref (evA (xV X) 0)]) (b := q4) (mcc := 4) (msc := 17) hX dX9_init_50 (by
    have := k_X5 (l := xl X) (V := sA (xV X) (upA ad3 88 q4)) (μ := mD (sI μ 3 2 (-1)) 8) (z := zX3 (zX2 (zX1 z))) hL hz3.up hm3.up
    have e : evA (sA (xV X) (upA ad3 88 q4)) 88 = q4 := (show upA ad3 88 q4 88 = q4 from upA_n)
    rw [e] at this
    exact this) mwI_X5 imI_X5 rfl (by decide +kernel) rfl rfl (by decide) (by decide) (Nat.le_of_ble_eq_true rfl) (by decide) (by decide) (fun ad4 ha4 => ?_)
  have a6 : ad4 0 = evA (xV X) 0 := (ha4 0 (by decide)).trans a5
  have t6 : ad4 88 = q4 := (ha4 88 (by decide)).trans upA_n
  refine gn_putF (a := 0) (ci := 9) (j := 3) hX dX9_init_53 fl_X9_37 ff_9_3 e0 (by decide) a6 (by rw [r3]; exact t6) ?_
  refine gn_ret hX hR (fun b hb => ?_) (by decide) (by decide) dX9_init_56
  have : b = 0 := by omega
  rw [this]; exact a6
