set_option maxHeartbeats 4000000 in
set_option maxRecDepth 100000 in
theorem c_J6_bitCount_0f7a4 {l : Launch} {V : Ev} (hL : V.2.2.2 = lyC) {v0 : Int32}  {μ : Mem} {rZ : Int32} {μZ : Mem} (h : f_J6_bitCount_0f7a4 v0 μ = some (rZ, μZ)) : CT l V yJ6_bitCount_0f7a4 cJ6_bitCount_0f7a4 1 (some .int) 0 [.int v0] μ μZ (some (.int rZ)) := by
  refine so_met [(0, .int v0)] (by decide) (Nat.le_of_ble_eq_true rfl) (evCn hL) rfl ?_
  intro X hl hV hn hX hR
  subst hl hV
  unfold f_J6_bitCount_0f7a4 at h
  refine so_iload_n (pc := 0) hX dJ6_bitCount_0f7a4_0 0 rfl ?_
  refine so_iload_n (pc := 1) hX dJ6_bitCount_0f7a4_1 0 rfl ?_
  refine so_iconst (v := (1 : Int32)) (pc := 2) hX dJ6_bitCount_0f7a4_2 (by decide) ?_
  refine so_iushr (pc := 3) hX dJ6_bitCount_0f7a4_3 ?_
  refine so_ldcw (v := (1431655765 : Int32)) (pc := 4) hX dJ6_bitCount_0f7a4_4 (TTm (by decide +kernel) rfl) ?_
  refine so_iand (pc := 7) hX dJ6_bitCount_0f7a4_7 ?_
  refine so_isub (pc := 8) hX dJ6_bitCount_0f7a4_8 ?_
  refine so_istore_n (pc := 9) hX dJ6_bitCount_0f7a4_9 [(0, .int (v0 - ((iUsh v0 (1 : Int32)) &&& (1431655765 : Int32))))] (by rw [hn]; decide) rfl ?_
  refine so_iload_n (pc := 10) hX dJ6_bitCount_0f7a4_10 0 rfl ?_
  refine so_ldcw (v := (858993459 : Int32)) (pc := 11) hX dJ6_bitCount_0f7a4_11 (TTm (by decide +kernel) rfl) ?_
  refine so_iand (pc := 14) hX dJ6_bitCount_0f7a4_14 ?_
  refine so_iload_n (pc := 15) hX dJ6_bitCount_0f7a4_15 0 rfl ?_
  refine so_iconst (v := (2 : Int32)) (pc := 16) hX dJ6_bitCount_0f7a4_16 (by decide) ?_
  refine so_iushr (pc := 17) hX dJ6_bitCount_0f7a4_17 ?_
  refine so_ldcw (v := (858993459 : Int32)) (pc := 18) hX dJ6_bitCount_0f7a4_18 (TTm (by decide +kernel) rfl) ?_
  refine so_iand (pc := 21) hX dJ6_bitCount_0f7a4_21 ?_
  refine so_iadd (pc := 22) hX dJ6_bitCount_0f7a4_22 ?_
  refine so_istore_n (pc := 23) hX dJ6_bitCount_0f7a4_23 [(0, .int (((v0 - ((iUsh v0 (1 : Int32)) &&& (1431655765 : Int32))) &&& (858993459 : Int32)) + ((iUsh (v0 - ((iUsh v0 (1 : Int32)) &&& (1431655765 : Int32))) (2 : Int32)) &&& (858993459 : Int32))))] (by rw [hn]; decide) rfl ?_
  refine so_iload_n (pc := 24) hX dJ6_bitCount_0f7a4_24 0 rfl ?_
  refine so_iload_n (pc := 25) hX dJ6_bitCount_0f7a4_25 0 rfl ?_
  refine so_iconst (v := (4 : Int32)) (pc := 26) hX dJ6_bitCount_0f7a4_26 (by decide) ?_
  refine so_iushr (pc := 27) hX dJ6_bitCount_0f7a4_27 ?_
  refine so_iadd (pc := 28) hX dJ6_bitCount_0f7a4_28 ?_
  refine so_ldcw (v := (252645135 : Int32)) (pc := 29) hX dJ6_bitCount_0f7a4_29 (TTm (by decide +kernel) rfl) ?_
  refine so_iand (pc := 32) hX dJ6_bitCount_0f7a4_32 ?_
  refine so_istore_n (pc := 33) hX dJ6_bitCount_0f7a4_33 [(0, .int (((((v0 - ((iUsh v0 (1 : Int32)) &&& (1431655765 : Int32))) &&& (858993459 : Int32)) + ((iUsh (v0 - ((iUsh v0 (1 : Int32)) &&& (1431655765 : Int32))) (2 : Int32)) &&& (858993459 : Int32))) + (iUsh (((v0 - ((iUsh v0 (1 : Int32)) &&& (1431655765 : Int32))) &&& (858993459 : Int32)) + ((iUsh (v0 - ((iUsh v0 (1 : Int32)) &&& (1431655765 : Int32))) (2 : Int32)) &&& (858993459 : Int32))) (4 : Int32))) &&& (252645135 : Int32)))] (by rw [hn]; decide) rfl ?_
  refine so_iload_n (pc := 34) hX dJ6_bitCount_0f7a4_34 0 rfl ?_
  refine so_iload_n (pc := 35) hX dJ6_bitCount_0f7a4_35 0 rfl ?_
  refine so_bipush (v := (8 : Int32)) (pc := 36) hX dJ6_bitCount_0f7a4_36 (by decide) ?_
  refine so_iushr (pc := 38) hX dJ6_bitCount_0f7a4_38 ?_
  refine so_iadd (pc := 39) hX dJ6_bitCount_0f7a4_39 ?_
  refine so_istore_n (pc := 40) hX dJ6_bitCount_0f7a4_40 [(0, .int ((((((v0 - ((iUsh v0 (1 : Int32)) &&& (1431655765 : Int32))) &&& (858993459 : Int32)) + ((iUsh (v0 - ((iUsh v0 (1 : Int32)) &&& (1431655765 : Int32))) (2 : Int32)) &&& (858993459 : Int32))) + (iUsh (((v0 - ((iUsh v0 (1 : Int32)) &&& (1431655765 : Int32))) &&& (858993459 : Int32)) + ((iUsh (v0 - ((iUsh v0 (1 : Int32)) &&& (1431655765 : Int32))) (2 : Int32)) &&& (858993459 : Int32))) (4 : Int32))) &&& (252645135 : Int32)) + (iUsh (((((v0 - ((iUsh v0 (1 : Int32)) &&& (1431655765 : Int32))) &&& (858993459 : Int32)) + ((iUsh (v0 - ((iUsh v0 (1 : Int32)) &&& (1431655765 : Int32))) (2 : Int32)) &&& (858993459 : Int32))) + (iUsh (((v0 - ((iUsh v0 (1 : Int32)) &&& (1431655765 : Int32))) &&& (858993459 : Int32)) + ((iUsh (v0 - ((iUsh v0 (1 : Int32)) &&& (1431655765 : Int32))) (2 : Int32)) &&& (858993459 : Int32))) (4 : Int32))) &&& (252645135 : Int32)) (8 : Int32))))] (by rw [hn]; decide) rfl ?_
  refine so_iload_n (pc := 41) hX dJ6_bitCount_0f7a4_41 0 rfl ?_
  refine so_iload_n (pc := 42) hX dJ6_bitCount_0f7a4_42 0 rfl ?_
  refine so_bipush (v := (16 : Int32)) (pc := 43) hX dJ6_bitCount_0f7a4_43 (by decide) ?_
  refine so_iushr (pc := 45) hX dJ6_bitCount_0f7a4_45 ?_
  refine so_iadd (pc := 46) hX dJ6_bitCount_0f7a4_46 ?_
  refine so_istore_n (pc := 47) hX dJ6_bitCount_0f7a4_47 [(0, .int (((((((v0 - ((iUsh v0 (1 : Int32)) &&& (1431655765 : Int32))) &&& (858993459 : Int32)) + ((iUsh (v0 - ((iUsh v0 (1 : Int32)) &&& (1431655765 : Int32))) (2 : Int32)) &&& (858993459 : Int32))) + (iUsh (((v0 - ((iUsh v0 (1 : Int32)) &&& (1431655765 : Int32))) &&& (858993459 : Int32)) + ((iUsh (v0 - ((iUsh v0 (1 : Int32)) &&& (1431655765 : Int32))) (2 : Int32)) &&& (858993459 : Int32))) (4 : Int32))) &&& (252645135 : Int32)) + (iUsh (((((v0 - ((iUsh v0 (1 : Int32)) &&& (1431655765 : Int32))) &&& (858993459 : Int32)) + ((iUsh (v0 - ((iUsh v0 (1 : Int32)) &&& (1431655765 : Int32))) (2 : Int32)) &&& (858993459 : Int32))) + (iUsh (((v0 - ((iUsh v0 (1 : Int32)) &&& (1431655765 : Int32))) &&& (858993459 : Int32)) + ((iUsh (v0 - ((iUsh v0 (1 : Int32)) &&& (1431655765 : Int32))) (2 : Int32)) &&& (858993459 : Int32))) (4 : Int32))) &&& (252645135 : Int32)) (8 : Int32))) + (iUsh ((((((v0 - ((iUsh v0 (1 : Int32)) &&& (1431655765 : Int32))) &&& (858993459 : Int32)) + ((iUsh (v0 - ((iUsh v0 (1 : Int32)) &&& (1431655765 : Int32))) (2 : Int32)) &&& (858993459 : Int32))) + (iUsh (((v0 - ((iUsh v0 (1 : Int32)) &&& (1431655765 : Int32))) &&& (858993459 : Int32)) + ((iUsh (v0 - ((iUsh v0 (1 : Int32)) &&& (1431655765 : Int32))) (2 : Int32)) &&& (858993459 : Int32))) (4 : Int32))) &&& (252645135 : Int32)) + (iUsh (((((v0 - ((iUsh v0 (1 : Int32)) &&& (1431655765 : Int32))) &&& (858993459 : Int32)) + ((iUsh (v0 - ((iUsh v0 (1 : Int32)) &&& (1431655765 : Int32))) (2 : Int32)) &&& (858993459 : Int32))) + (iUsh (((v0 - ((iUsh v0 (1 : Int32)) &&& (1431655765 : Int32))) &&& (858993459 : Int32)) + ((iUsh (v0 - ((iUsh v0 (1 : Int32)) &&& (1431655765 : Int32))) (2 : Int32)) &&& (858993459 : Int32))) (4 : Int32))) &&& (252645135 : Int32)) (8 : Int32))) (16 : Int32))))] (by rw [hn]; decide) rfl ?_
  refine so_iload_n (pc := 48) hX dJ6_bitCount_0f7a4_48 0 rfl ?_
  refine so_bipush (v := (63 : Int32)) (pc := 49) hX dJ6_bitCount_0f7a4_49 (by decide) ?_
  refine so_iand (pc := 51) hX dJ6_bitCount_0f7a4_51 ?_
  exact so_iretH (pc := 52) hX hR h rfl dJ6_bitCount_0f7a4_52
set_option maxHeartbeats 4000000 in
set_option maxRecDepth 100000 in
theorem c_X8_logAt {l : Launch} {V : Ev} (hL : V.2.2.2 = lyC) {v1 : Int32}  {μ : Mem} {rZ : Option Nat} {μZ : Mem} (h : f_X8_logAt v1 μ = some (rZ, μZ)) : CT l V yX8_logAt cX8_logAt 2 (some (.object RX4)) 1 [.ref (evA V 6), .int v1] μ μZ (some (vr V rZ)) := by
  refine so_met [(0, .ref (evA V 6)), (1, .int v1)] (by decide) (Nat.le_of_ble_eq_true rfl) (evCn hL) rfl ?_
  intro X hl hV hn hX hR
  subst hl hV
  unfold f_X8_logAt at h
  refine so_iload_n (pc := 0) hX dX8_logAt_0 1 rfl ?_
  refine so_iconst (v := (0 : Int32)) (pc := 1) hX dX8_logAt_1 (by decide) ?_
  refine so_iconst (v := (2 : Int32)) (pc := 2) hX dX8_logAt_2 (by decide) ?_
  obtain ⟨r2, μ1, hr, h⟩ := obd h
  refine so_callSN (As := [.int v1, .int (0 : Int32), .int (2 : Int32)]) (rest := []) (pc := 3) hX dX8_logAt_3 (c_X9_isFrom hL hr) mw_X9_isFrom ms_X9_isFrom ml_X8_32 rfl rfl (by omega) (by decide) (Nat.le_of_ble_eq_true rfl) ?_
  refine so_if_eq (pc := 6) hX 30 dX8_logAt_6 (by decide) (fun hc3 => ?_) (fun hc3 => ?_)
  · have h := ip hc3 h
    refine so_null (pc := 30) hX dX8_logAt_30 ?_
    exact so_aretN (pc := 31) hX hR h dX8_logAt_31
  · have h := iq hc3 h
    refine so_aload_n (pc := 9) hX dX8_logAt_9 0 rfl ?_
    refine so_gR (pc := 10) hX 7 dX8_logAt_10 fl_X8_11 (ekC hL rfl) (erC hL rfl) ?_
    refine so_iload_n (pc := 13) hX dX8_logAt_13 1 rfl ?_
    obtain ⟨j4, hj5, h⟩ := ob h
    refine so_aald (t0 := 4) (b := (11 + 15 * j4)) (pc := 14) hX dX8_logAt_14 (ekC hL rfl) (by decide) (by decide) (elC hL rfl) rfl hj5 (erC hL rfl) ?_
    refine so_gI (pc := 15) hX dX8_logAt_15 fl_X8_36 (ekC hL (kE15 (rR_lt hj5))) ?_
    refine so_if_eq (pc := 18) hX 30 dX8_logAt_18 (by decide) (fun hc6 => ?_) (fun hc6 => ?_)
    · have h := ip hc6 h
      refine so_null (pc := 30) hX dX8_logAt_30 ?_
      exact so_aretN (pc := 31) hX hR h dX8_logAt_31
    · have h := iq hc6 h
      refine so_aload_n (pc := 21) hX dX8_logAt_21 0 rfl ?_
      refine so_gR (pc := 22) hX 7 dX8_logAt_22 fl_X8_11 (ekC hL rfl) (erC hL rfl) ?_
      refine so_iload_n (pc := 25) hX dX8_logAt_25 1 rfl ?_
      obtain ⟨j7, hj8, h⟩ := ob h
      refine so_aald (t0 := 4) (b := (11 + 15 * j7)) (pc := 26) hX dX8_logAt_26 (ekC hL rfl) (by decide) (by decide) (elC hL rfl) rfl hj8 (erC hL rfl) ?_
      refine so_goto (pc := 27) hX 31 dX8_logAt_27 (by decide) ?_
      exact so_aretS (pc := 31) hX hR h dX8_logAt_31
theorem kr_X8_logAt {v : Int32} {μ μ2 : Mem} {a : Nat} (h : f_X8_logAt v μ = some (some a, μ2)) : kdC a = 4 := by
  unfold f_X8_logAt at h
  obtain ⟨r, m1, _, h⟩ := obd h
  by_cases h1 : r = 0
  · have h := ip h1 h; cases h
  · have h := iq h1 h
    obtain ⟨j, _, h⟩ := ob h
    split at h
    · cases h
    · obtain ⟨j2, hj2, h⟩ := ob h
      cases h
      exact kE15 (rR_lt hj2)
set_option maxHeartbeats 4000000 in
set_option maxRecDepth 100000 in
theorem c_X8_makeIn {l : Launch} {V : Ev} (hL : V.2.2.2 = lyC) {a1 : Nat} {v2 : Int32} (ka1 : kdC a1 = 0) {μ : Mem} {rZ : Int32} {μZ : Mem} (h : f_X8_makeIn a1 v2 μ = some (rZ, μZ)) : CT l V yX8_makeIn cX8_makeIn 4 (some .boolean) 4 [.ref (evA V 6), .ref (evA V a1), .int v2] μ μZ (some (.int rZ)) := by
  refine so_met [(0, .ref (evA V 6)), (1, .ref (evA V a1)), (2, .int v2)] (by decide) (Nat.le_of_ble_eq_true rfl) (evCn hL) rfl ?_
  intro X hl hV hn hX hR
  subst hl hV
  unfold f_X8_makeIn at h
  refine so_aload_n (pc := 0) hX dX8_makeIn_0 0 rfl ?_
  refine so_iload_n (pc := 1) hX dX8_makeIn_1 2 rfl ?_
  obtain ⟨o2, μ1, hr, h⟩ := obd h
  refine so_callV (As := [.int v2]) (rest := []) (pc := 2) hX dX8_makeIn_2 (c_X8_logAt hL hr) mw_X8_logAt mv_X8_logAt ml_X8_48 (ekC hL rfl) (by decide) rfl rfl rfl rfl (by omega) (by decide) (Nat.le_of_ble_eq_true rfl) ?_
  cases o2 with
  | none =>
    have h := oc_n h
    refine so_astore_nN (pc := 5) hX dX8_makeIn_5 [(3, .null), (0, .ref (evA (xV X) 6)), (1, .ref (evA (xV X) a1)), (2, .int v2)] (by rw [hn]; decide) rfl ?_
    refine so_aload_nN (pc := 6) hX dX8_makeIn_6 0 rfl ?_
    refine so_ifnullN (pc := 7) hX 22 dX8_makeIn_7 (by decide) ?_
    refine so_iconst (v := (0 : Int32)) (pc := 22) hX dX8_makeIn_22 (by decide) ?_
    exact so_iretH (pc := 23) hX hR h (by decide) dX8_makeIn_23
  | some a3 =>
    have h := oc_s h
    have ha4 := kr_X8_logAt hr
    refine so_astore_n (pc := 5) hX dX8_makeIn_5 [(3, .ref (evA (xV X) a3)), (0, .ref (evA (xV X) 6)), (1, .ref (evA (xV X) a1)), (2, .int v2)] (by rw [hn]; decide) rfl ?_
    refine so_aload_n (pc := 6) hX dX8_makeIn_6 0 rfl ?_
    refine so_ifnull (pc := 7) hX dX8_makeIn_7 ?_
    refine so_aload_n (pc := 10) hX dX8_makeIn_10 1 rfl ?_
    refine so_gR (pc := 11) hX 9 dX8_makeIn_11 fl_X8_26 (ekC hL rfl) (erC hL rfl) ?_
    refine so_aload_n (pc := 14) hX dX8_makeIn_14 2 rfl ?_
    refine so_aload_n (pc := 15) hX dX8_makeIn_15 0 rfl ?_
    obtain ⟨r6, μ5, hr, h⟩ := obd h
    refine so_callV (As := [.ref (evA (xV X) a1), .ref (evA (xV X) a3)]) (rest := []) (pc := 16) hX dX8_makeIn_16 (c_X2_find hL ka1 ha4 hr) mw_X2_find mv_X2_find ml_X8_52 (ekC hL rfl) (by decide) rfl rfl rfl rfl (by omega) (by decide) (Nat.le_of_ble_eq_true rfl) ?_
    refine so_if_ne (pc := 19) hX 24 dX8_makeIn_19 (by decide) (fun hc7 => ?_) (fun hc7 => ?_)
    · have h := iq hc7 h
      refine so_aload_n (pc := 24) hX dX8_makeIn_24 2 rfl ?_
      refine so_iload_n (pc := 25) hX dX8_makeIn_25 3 rfl ?_
      refine so_aload_n (pc := 26) hX dX8_makeIn_26 1 rfl ?_
      refine so_gR (pc := 27) hX 9 dX8_makeIn_27 fl_X8_26 (ekC hL rfl) (erC hL rfl) ?_
      obtain ⟨μ8, hr, h⟩ := ob h
      refine so_callV (As := [.int v2, .ref (evA (xV X) 9)]) (rest := []) (pc := 30) hX dX8_makeIn_30 (c_X0_madeAt hL ka1 hr) mw_X0_madeAt mv_X0_madeAt ml_X8_56 (ekC hL ka1) (by decide) rfl rfl rfl rfl (by omega) (by decide) (Nat.le_of_ble_eq_true rfl) ?_
      refine so_aload_n (pc := 33) hX dX8_makeIn_33 0 rfl ?_
      refine so_aload_n (pc := 34) hX dX8_makeIn_34 2 rfl ?_
      obtain ⟨μ9, hr, h⟩ := ob h
      refine so_callV (As := [.ref (evA (xV X) a1)]) (rest := []) (pc := 35) hX dX8_makeIn_35 (c_X4_addCuts hL ha4 ka1 hr) mw_X4_addCuts mv_X4_addCuts ml_X8_60 (ekC hL ha4) (by decide) rfl rfl rfl rfl (by omega) (by decide) (Nat.le_of_ble_eq_true rfl) ?_
      refine so_iconst (v := (1 : Int32)) (pc := 38) hX dX8_makeIn_38 (by decide) ?_
      exact so_iretH (pc := 39) hX hR h (by decide) dX8_makeIn_39
    · have h := ip hc7 h
      refine so_iconst (v := (0 : Int32)) (pc := 22) hX dX8_makeIn_22 (by decide) ?_
      exact so_iretH (pc := 23) hX hR h (by decide) dX8_makeIn_23
set_option maxHeartbeats 4000000 in
set_option maxRecDepth 100000 in
theorem c_X8_takeBack {l : Launch} {V : Ev} (hL : V.2.2.2 = lyC) {a1 : Nat} (ka1 : kdC a1 = 0) {μ : Mem} {μZ : Mem} (h : f_X8_takeBack a1 μ = some μZ) : CT l V yX8_takeBack cX8_takeBack 3 none 3 [.ref (evA V 6), .ref (evA V a1)] μ μZ none := by
  refine so_met [(0, .ref (evA V 6)), (1, .ref (evA V a1))] (by decide) (Nat.le_of_ble_eq_true rfl) (evCn hL) rfl ?_
  intro X hl hV hn hX hR
  subst hl hV
  unfold f_X8_takeBack at h
  refine so_aload_n (pc := 0) hX dX8_takeBack_0 0 rfl ?_
  refine so_aload_n (pc := 1) hX dX8_takeBack_1 1 rfl ?_
  refine so_gI (pc := 2) hX dX8_takeBack_2 fl_X8_41 (ekC hL ka1) ?_
  obtain ⟨o2, μ1, hr, h⟩ := obd h
  refine so_callV (As := [.int (μ.1 a1 8)]) (rest := []) (pc := 5) hX dX8_takeBack_5 (c_X8_logAt hL hr) mw_X8_logAt mv_X8_logAt ml_X8_48 (ekC hL rfl) (by decide) rfl rfl rfl rfl (by omega) (by decide) (Nat.le_of_ble_eq_true rfl) ?_
  cases o2 with
  | none =>
    have h := oc_n h
    refine so_astore_nN (pc := 8) hX dX8_takeBack_8 [(2, .null), (0, .ref (evA (xV X) 6)), (1, .ref (evA (xV X) a1))] (by rw [hn]; decide) rfl ?_
    refine so_aload_nN (pc := 9) hX dX8_takeBack_9 0 rfl ?_
    refine so_ifnullN (pc := 10) hX 18 dX8_takeBack_10 (by decide) ?_
    refine so_aload_n (pc := 18) hX dX8_takeBack_18 2 rfl ?_
    obtain ⟨μ5, hr, h⟩ := ob h
    refine so_callV (As := []) (rest := []) (pc := 19) hX dX8_takeBack_19 (c_X0_notMade hL ka1 hr) mw_X0_notMade mv_X0_notMade ml_X8_45 (ekC hL ka1) (by decide) rfl rfl rfl rfl (by omega) (by decide) (Nat.le_of_ble_eq_true rfl) ?_
    exact so_vretH (pc := 22) hX hR h dX8_takeBack_22
  | some a3 =>
    have h := oc_s h
    have ha4 := kr_X8_logAt hr
    refine so_astore_n (pc := 8) hX dX8_takeBack_8 [(2, .ref (evA (xV X) a3)), (0, .ref (evA (xV X) 6)), (1, .ref (evA (xV X) a1))] (by rw [hn]; decide) rfl ?_
    refine so_aload_n (pc := 9) hX dX8_takeBack_9 0 rfl ?_
    refine so_ifnull (pc := 10) hX dX8_takeBack_10 ?_
    refine so_aload_n (pc := 13) hX dX8_takeBack_13 0 rfl ?_
    refine so_aload_n (pc := 14) hX dX8_takeBack_14 2 rfl ?_
    obtain ⟨μ6, hr, h⟩ := ob h
    refine so_callV (As := [.ref (evA (xV X) a1)]) (rest := []) (pc := 15) hX dX8_takeBack_15 (c_X4_removeCuts hL ha4 ka1 hr) mw_X4_removeCuts mv_X4_removeCuts ml_X8_64 (ekC hL ha4) (by decide) rfl rfl rfl rfl (by omega) (by decide) (Nat.le_of_ble_eq_true rfl) ?_
    refine so_aload_n (pc := 18) hX dX8_takeBack_18 2 rfl ?_
    obtain ⟨μ7, hr, h⟩ := ob h
    refine so_callV (As := []) (rest := []) (pc := 19) hX dX8_takeBack_19 (c_X0_notMade hL ka1 hr) mw_X0_notMade mv_X0_notMade ml_X8_45 (ekC hL ka1) (by decide) rfl rfl rfl rfl (by omega) (by decide) (Nat.le_of_ble_eq_true rfl) ?_
    exact so_vretH (pc := 22) hX hR h dX8_takeBack_22
set_option maxHeartbeats 4000000 in
set_option maxRecDepth 100000 in
theorem g_X5_tryDoor_L64 {X : Cx} {dc : Nat} (hX : Fx X cX5_tryDoor RX5 (dc + 1)) (hL : (xV X).2.2.2 = lyC) (hn : xn X = 5) {μZ : Mem} (hR : Rt X none μZ none) {rk : Int32 → Int32 → Mem → Option Mem} (hdc : 12 ≤ dc) (hrec_tryDoor : ∀ (x0 x1 : Int32) (μ μ2 : Mem), rk x0 x1 μ = some μ2 → CT (xl X) (xV X) yX5_tryDoor cX5_tryDoor 5 none dc [.ref (evA (xV X) 88), .int x0, .int x1] μ μ2 none) {v1 : Int32} {v2 : Int32} {b3 : Nat} (kb3 : kdC b3 = 0) {K : Mem → Option (Mem)} (hK : ∀  (μ : Mem), K μ = some μZ → Gd X 118 [] [] μ) : ∀ (n : Nat) (v4 : Int32) (μ : Mem), f_X5_tryDoor_L64 rk v1 v2 b3 K n v4 μ = some μZ → Gd X 64 [(0, .ref (evA (xV X) 88)), (1, .int v1), (2, .int v2), (3, .ref (evA (xV X) b3)), (4, .int v4)] [] μ := by
  intro n
  induction n with
  | zero => intro _ _ h; rw [f_X5_tryDoor_L64] at h; cases h
  | succ n ih =>
    intro v4 μ h
    rw [f_X5_tryDoor_L64] at h
    refine so_iload (pc := 64) hX dX5_tryDoor_64 4 rfl ?_
    refine so_iconst (v := (3 : Int32)) (pc := 66) hX dX5_tryDoor_66 (by decide) ?_
    refine so_icmp_ge (pc := 67) hX 118 dX5_tryDoor_67 (by decide) (fun hc8 => ?_) (fun hc8 => ?_)
    · have h := ip hc8 h
      refine so_sub (pc := 118) (lv' := []) [] rfl ?_
      exact hK _ h
    · have h := iq hc8 h
      refine so_aload_n (pc := 70) hX dX5_tryDoor_70 0 rfl ?_
      refine so_gR (pc := 71) hX 6 dX5_tryDoor_71 fl_X5_12 (ekC hL rfl) (erC hL rfl) ?_
      refine so_aload_n (pc := 74) hX dX5_tryDoor_74 3 rfl ?_
      refine so_iload (pc := 75) hX dX5_tryDoor_75 4 rfl ?_
      obtain ⟨r10, μ9, hr, h⟩ := obd h
      refine so_callV (As := [.ref (evA (xV X) b3), .int v4]) (rest := []) (pc := 77) hX dX5_tryDoor_77 (c_X8_makeIn hL kb3 hr) mw_X8_makeIn mv_X8_makeIn ml_X5_77 (ekC hL rfl) (by decide) rfl rfl rfl rfl (by omega) (by decide) (Nat.le_of_ble_eq_true rfl) ?_
      refine so_if_eq (pc := 80) hX 112 dX5_tryDoor_80 (by decide) (fun hc11 => ?_) (fun hc11 => ?_)
      · have h := ip hc11 h
        refine so_iinc (pc := 112) hX dX5_tryDoor_112 4 (1 : Int32) [(4, .int (v4 + (1 : Int32))), (0, .ref (evA (xV X) 88)), (1, .int v1), (2, .int v2), (3, .ref (evA (xV X) b3))] rfl (by decide) (by rw [hn]; decide) rfl ?_
        refine so_goto (pc := 115) hX 64 dX5_tryDoor_115 (by decide) ?_
        refine so_sub (pc := 64) (lv' := [(0, .ref (evA (xV X) 88)), (1, .int v1), (2, .int v2), (3, .ref (evA (xV X) b3)), (4, .int (v4 + (1 : Int32)))]) [1, 2, 3, 4, 0] rfl ?_
        exact ih _ _ h
      · have h := iq hc11 h
        refine so_aload_n (pc := 83) hX dX5_tryDoor_83 0 rfl ?_
        refine so_gR (pc := 84) hX 91 dX5_tryDoor_84 fl_X5_25 (ekC hL rfl) (erC hL rfl) ?_
        refine so_iload_n (pc := 87) hX dX5_tryDoor_87 1 rfl ?_
        refine so_iload (pc := 88) hX dX5_tryDoor_88 4 rfl ?_
        obtain ⟨μ12, hr, h⟩ := ob h
        refine so_iast (pc := 90) hX dX5_tryDoor_90 (ekC hL rfl) (elC hL rfl) hr ?_
        refine so_aload_n (pc := 91) hX dX5_tryDoor_91 0 rfl ?_
        refine so_iload_n (pc := 92) hX dX5_tryDoor_92 1 rfl ?_
        refine so_iconst (v := (1 : Int32)) (pc := 93) hX dX5_tryDoor_93 (by decide) ?_
        refine so_iadd (pc := 94) hX dX5_tryDoor_94 ?_
        refine so_iload_n (pc := 95) hX dX5_tryDoor_95 2 rfl ?_
        refine so_iconst (v := (1 : Int32)) (pc := 96) hX dX5_tryDoor_96 (by decide) ?_
        refine so_iload (pc := 97) hX dX5_tryDoor_97 4 rfl ?_
        refine so_ishl (pc := 99) hX dX5_tryDoor_99 ?_
        refine so_ior (pc := 100) hX dX5_tryDoor_100 ?_
        obtain ⟨μ13, hr, h⟩ := ob h
        refine so_callV (As := [.int (v1 + (1 : Int32)), .int (v2 ||| ((1 : Int32) <<< (v4 &&& 31)))]) (rest := []) (pc := 101) hX dX5_tryDoor_101 (hrec_tryDoor _ _ _ _ hr) mw_X5_tryDoor mv_X5_tryDoor ml_X5_45 (ekC hL rfl) (by decide) rfl rfl rfl rfl (Nat.le_refl _) (by decide) (Nat.le_of_ble_eq_true rfl) ?_
        refine so_aload_n (pc := 104) hX dX5_tryDoor_104 0 rfl ?_
        refine so_gR (pc := 105) hX 6 dX5_tryDoor_105 fl_X5_12 (ekC hL rfl) (erC hL rfl) ?_
        refine so_aload_n (pc := 108) hX dX5_tryDoor_108 3 rfl ?_
        obtain ⟨μ14, hr, h⟩ := ob h
        refine so_callV (As := [.ref (evA (xV X) b3)]) (rest := []) (pc := 109) hX dX5_tryDoor_109 (c_X8_takeBack hL kb3 hr) mw_X8_takeBack mv_X8_takeBack ml_X5_81 (ekC hL rfl) (by decide) rfl rfl rfl rfl (by omega) (by decide) (Nat.le_of_ble_eq_true rfl) ?_
        refine so_iinc (pc := 112) hX dX5_tryDoor_112 4 (1 : Int32) [(4, .int (v4 + (1 : Int32))), (0, .ref (evA (xV X) 88)), (1, .int v1), (2, .int v2), (3, .ref (evA (xV X) b3))] rfl (by decide) (by rw [hn]; decide) rfl ?_
        refine so_goto (pc := 115) hX 64 dX5_tryDoor_115 (by decide) ?_
        refine so_sub (pc := 64) (lv' := [(0, .ref (evA (xV X) 88)), (1, .int v1), (2, .int v2), (3, .ref (evA (xV X) b3)), (4, .int (v4 + (1 : Int32)))]) [1, 2, 3, 4, 0] rfl ?_
        exact ih _ _ h
set_option maxHeartbeats 4000000 in
set_option maxRecDepth 100000 in
theorem c_X5_tryDoor {l : Launch} {V : Ev} (hL : V.2.2.2 = lyC) {rk : Int32 → Int32 → Mem → Option Mem} {dc : Nat} (hdc : 12 ≤ dc) (hrec_tryDoor : ∀ (x0 x1 : Int32) (μ μ2 : Mem), rk x0 x1 μ = some μ2 → CT l V yX5_tryDoor cX5_tryDoor 5 none dc [.ref (evA V 88), .int x0, .int x1] μ μ2 none) {v1 : Int32} {v2 : Int32}  {μ : Mem} {μZ : Mem} (h : f_X5_tryDoor rk v1 v2 μ = some μZ) : CT l V yX5_tryDoor cX5_tryDoor 5 none (dc + 1) [.ref (evA V 88), .int v1, .int v2] μ μZ none := by
  refine so_met [(0, .ref (evA V 88)), (1, .int v1), (2, .int v2)] (by decide) (Nat.le_of_ble_eq_true rfl) (evCn hL) rfl ?_
  intro X hl hV hn hX hR
  subst hl hV
  unfold f_X5_tryDoor at h
  refine so_iload_n (pc := 0) hX dX5_tryDoor_0 2 rfl ?_
  obtain ⟨r2, μ1, hr, h⟩ := obd h
  refine so_callS (As := [.int v2]) (rest := []) (pc := 1) hX dX5_tryDoor_1 (c_J6_bitCount_0f7a4 hL hr) mw_J6_bitCount_0f7a4 ms_J6_bitCount_0f7a4 ml_X5_65 rfl rfl (by omega) (by decide) (Nat.le_of_ble_eq_true rfl) ?_
  refine so_aload_n (pc := 4) hX dX5_tryDoor_4 0 rfl ?_
  refine so_gI (pc := 5) hX dX5_tryDoor_5 fl_X5_41 (ekC hL rfl) ?_
  refine so_icmp_lt (pc := 8) hX 12 dX5_tryDoor_8 (by decide) (fun hc3 => ?_) (fun hc3 => ?_)
  · have h := ip hc3 h
    refine so_iload_n (pc := 12) hX dX5_tryDoor_12 1 rfl ?_
    refine so_aload_n (pc := 13) hX dX5_tryDoor_13 0 rfl ?_
    refine so_gI (pc := 14) hX dX5_tryDoor_14 fl_X5_49 (ekC hL rfl) ?_
    refine so_icmp_lt (pc := 17) hX 46 dX5_tryDoor_17 (by decide) (fun hc4 => ?_) (fun hc4 => ?_)
    · have h := ip hc4 h
      refine so_aload_n (pc := 46) hX dX5_tryDoor_46 0 rfl ?_
      refine so_gR (pc := 47) hX 6 dX5_tryDoor_47 fl_X5_12 (ekC hL rfl) (erC hL rfl) ?_
      refine so_gR (pc := 50) hX 8 dX5_tryDoor_50 fl_X5_52 (ekC hL rfl) (erC hL rfl) ?_
      refine so_aload_n (pc := 53) hX dX5_tryDoor_53 0 rfl ?_
      refine so_gR (pc := 54) hX 90 dX5_tryDoor_54 fl_X5_22 (ekC hL rfl) (erC hL rfl) ?_
      refine so_iload_n (pc := 57) hX dX5_tryDoor_57 1 rfl ?_
      obtain ⟨e5, hr, h⟩ := ob h
      refine so_iald (pc := 58) hX dX5_tryDoor_58 (ekC hL rfl) (elC hL rfl) hr ?_
      obtain ⟨j6, hj7, h⟩ := ob h
      refine so_aald (t0 := 2) (b := (56 + 4 * j6)) (pc := 59) hX dX5_tryDoor_59 (ekC hL rfl) (by decide) (by decide) (elC hL rfl) rfl hj7 (erC hL rfl) ?_
      refine so_astore_n (pc := 60) hX dX5_tryDoor_60 [(3, .ref (evA (xV X) (56 + 4 * j6))), (0, .ref (evA (xV X) 88)), (1, .int v1), (2, .int v2)] (by rw [hn]; decide) rfl ?_
      refine so_iconst (v := (0 : Int32)) (pc := 61) hX dX5_tryDoor_61 (by decide) ?_
      refine so_istore (pc := 62) hX dX5_tryDoor_62 [(4, .int (0 : Int32)), (3, .ref (evA (xV X) (56 + 4 * j6))), (0, .ref (evA (xV X) 88)), (1, .int v1), (2, .int v2)] (by rw [hn]; decide) rfl ?_
      refine so_sub (pc := 64) (lv' := [(0, .ref (evA (xV X) 88)), (1, .int v1), (2, .int v2), (3, .ref (evA (xV X) (56 + 4 * j6))), (4, .int (0 : Int32))]) [2, 3, 4, 1, 0] rfl ?_
      refine g_X5_tryDoor_L64 hX hL hn hR hdc hrec_tryDoor (kE13 (rR_lt hj7)) (fun μ15 h => ?_) FU _ _ h
      exact so_vretH (pc := 118) hX hR h dX5_tryDoor_118
    · have h := iq hc4 h
      refine so_aload_n (pc := 20) hX dX5_tryDoor_20 0 rfl ?_
      refine so_iload_n (pc := 21) hX dX5_tryDoor_21 2 rfl ?_
      obtain ⟨r17, μ16, hr, h⟩ := obd h
      refine so_callS (As := [.int v2]) (rest := [.ref (evA (xV X) 88)]) (pc := 22) hX dX5_tryDoor_22 (c_J6_bitCount_0f7a4 hL hr) mw_J6_bitCount_0f7a4 ms_J6_bitCount_0f7a4 ml_X5_65 rfl rfl (by omega) (by decide) (Nat.le_of_ble_eq_true rfl) ?_
      refine so_pI (pc := 25) hX dX5_tryDoor_25 fl_X5_41 fw_5_6 (ekC hL rfl) rfl rfl ?_
      refine so_aload_n (pc := 28) hX dX5_tryDoor_28 0 rfl ?_
      refine so_gR (pc := 29) hX 91 dX5_tryDoor_29 fl_X5_25 (ekC hL rfl) (erC hL rfl) ?_
      refine so_iconst (v := (0 : Int32)) (pc := 32) hX dX5_tryDoor_32 (by decide) ?_
      refine so_aload_n (pc := 33) hX dX5_tryDoor_33 0 rfl ?_
      refine so_gR (pc := 34) hX 92 dX5_tryDoor_34 fl_X5_28 (ekC hL rfl) (erC hL rfl) ?_
      refine so_iconst (v := (0 : Int32)) (pc := 37) hX dX5_tryDoor_37 (by decide) ?_
      refine so_aload_n (pc := 38) hX dX5_tryDoor_38 0 rfl ?_
      refine so_gI (pc := 39) hX dX5_tryDoor_39 fl_X5_49 (ekC hL rfl) ?_
      obtain ⟨μ18, hr, h⟩ := ob h
      refine so_copy (pc := 42) hX dX5_tryDoor_42 ml_X5_71 (ekC hL rfl) (elC hL rfl) (ekC hL rfl) (elC hL rfl) (by omega) (Nat.le_of_ble_eq_true rfl) hr ?_
      exact so_vretH (pc := 45) hX hR h dX5_tryDoor_45
  · have h := iq hc3 h
    exact so_vretH (pc := 11) hX hR h dX5_tryDoor_11
set_option maxHeartbeats 4000000 in
theorem knot_td {l : Launch} {V : Ev} (hL : V.2.2.2 = lyC) : ∀ (d : Nat) (x0 x1 : Int32) (μ μ2 : Mem), TD d x0 x1 μ = some μ2 → CT l V yX5_tryDoor cX5_tryDoor 5 none (12 + d) [.ref (evA V 88), .int x0, .int x1] μ μ2 none := by
  intro d
  induction d with
  | zero => intro _ _ _ _ h; cases h
  | succ d ih => intro x0 x1 μ μ2 h; exact c_X5_tryDoor hL (dc := 12 + d) (by omega) ih h
theorem c_X5_tryDoorF {l : Launch} {V : Ev} (hL : V.2.2.2 = lyC) {v1 v2 : Int32} {μ μZ : Mem} (h : F_X5_tryDoor v1 v2 μ = some μZ) : CT l V yX5_tryDoor cX5_tryDoor 5 none 20 [.ref (evA V 88), .int v1, .int v2] μ μZ none := knot_td hL 8 _ _ _ _ h
set_option maxHeartbeats 4000000 in
set_option maxRecDepth 100000 in
theorem g_X5_tell_L41 {X : Cx} (hX : Fx X cX5_tell RX5 21) (hL : (xV X).2.2.2 = lyC) (hn : xn X = 2) {rZ : Int32} {μZ : Mem} (hR : Rt X (some .int) μZ (some (.int rZ)))   {K : Mem → Option (Int32 × Mem)} (hK : ∀  (μ : Mem), K μ = some (rZ, μZ) → Gd X 72 [(0, .ref (evA (xV X) 88))] [] μ) : ∀ (n : Nat) (v1 : Int32) (μ : Mem), f_X5_tell_L41  K n v1 μ = some (rZ, μZ) → Gd X 41 [(0, .ref (evA (xV X) 88)), (1, .int v1)] [] μ := by
  intro n
  induction n with
  | zero => intro _ _ h; rw [f_X5_tell_L41] at h; cases h
  | succ n ih =>
    intro v1 μ h
    rw [f_X5_tell_L41] at h
    refine so_iload_n (pc := 41) hX dX5_tell_41 1 rfl ?_
    refine so_aload_n (pc := 42) hX dX5_tell_42 0 rfl ?_
    refine so_gI (pc := 43) hX dX5_tell_43 fl_X5_49 (ekC hL rfl) ?_
    refine so_icmp_ge (pc := 46) hX 72 dX5_tell_46 (by decide) (fun hc7 => ?_) (fun hc7 => ?_)
    · have h := ip hc7 h
      refine so_sub (pc := 72) (lv' := [(0, .ref (evA (xV X) 88))]) [0] rfl ?_
      exact hK _ h
    · have h := iq hc7 h
      refine so_aload_n (pc := 49) hX dX5_tell_49 0 rfl ?_
      refine so_gR (pc := 50) hX 89 dX5_tell_50 fl_X5_18 (ekC hL rfl) (erC hL rfl) ?_
      refine so_aload_n (pc := 53) hX dX5_tell_53 0 rfl ?_
      refine so_gR (pc := 54) hX 90 dX5_tell_54 fl_X5_22 (ekC hL rfl) (erC hL rfl) ?_
      refine so_iload_n (pc := 57) hX dX5_tell_57 1 rfl ?_
      obtain ⟨e8, hr, h⟩ := ob h
      refine so_iald (pc := 58) hX dX5_tell_58 (ekC hL rfl) (elC hL rfl) hr ?_
      refine so_aload_n (pc := 59) hX dX5_tell_59 0 rfl ?_
      refine so_gR (pc := 60) hX 92 dX5_tell_60 fl_X5_28 (ekC hL rfl) (erC hL rfl) ?_
      refine so_iload_n (pc := 63) hX dX5_tell_63 1 rfl ?_
      obtain ⟨e9, hr, h⟩ := ob h
      refine so_iald (pc := 64) hX dX5_tell_64 (ekC hL rfl) (elC hL rfl) hr ?_
      obtain ⟨μ10, hr, h⟩ := ob h
      refine so_iast (pc := 65) hX dX5_tell_65 (ekC hL rfl) (elC hL rfl) hr ?_
      refine so_iinc (pc := 66) hX dX5_tell_66 1 (1 : Int32) [(1, .int (v1 + (1 : Int32))), (0, .ref (evA (xV X) 88))] rfl (by decide) (by rw [hn]; decide) rfl ?_
      refine so_goto (pc := 69) hX 41 dX5_tell_69 (by decide) ?_
      refine so_sub (pc := 41) (lv' := [(0, .ref (evA (xV X) 88)), (1, .int (v1 + (1 : Int32)))]) [1, 0] rfl ?_
      exact ih _ _ h
set_option maxHeartbeats 4000000 in
set_option maxRecDepth 100000 in
theorem c_X5_tell {l : Launch} {V : Ev} (hL : V.2.2.2 = lyC)   {μ : Mem} {rZ : Int32} {μZ : Mem} (h : f_X5_tell  μ = some (rZ, μZ)) : CT l V yX5_tell cX5_tell 2 (some .int) 21 [.ref (evA V 88)] μ μZ (some (.int rZ)) := by
  refine so_met [(0, .ref (evA V 88))] (by decide) (Nat.le_of_ble_eq_true rfl) (evCn hL) rfl ?_
  intro X hl hV hn hX hR
  subst hl hV
  unfold f_X5_tell at h
  refine so_aload_n (pc := 0) hX dX5_tell_0 0 rfl ?_
  obtain ⟨r2, μ1, hr, h⟩ := obd h
  refine so_callV (As := []) (rest := []) (pc := 1) hX dX5_tell_1 (c_X5_gatherWaiting hL hr) mw_X5_gatherWaiting mv_X5_gatherWaiting ml_X5_37 (ekC hL rfl) (by decide) rfl rfl rfl rfl (by omega) (by decide) (Nat.le_of_ble_eq_true rfl) ?_
  refine so_if_ne (pc := 4) hX 9 dX5_tell_4 (by decide) (fun hc3 => ?_) (fun hc3 => ?_)
  · have h := iq hc3 h
    refine so_aload_n (pc := 9) hX dX5_tell_9 0 rfl ?_
    refine so_iconst (v := (4 : Int32)) (pc := 10) hX dX5_tell_10 (by decide) ?_
    refine so_pI (pc := 11) hX dX5_tell_11 fl_X5_41 fw_5_6 (ekC hL rfl) rfl rfl ?_
    refine so_aload_n (pc := 14) hX dX5_tell_14 0 rfl ?_
    refine so_iconst (v := (0 : Int32)) (pc := 15) hX dX5_tell_15 (by decide) ?_
    refine so_iconst (v := (0 : Int32)) (pc := 16) hX dX5_tell_16 (by decide) ?_
    obtain ⟨μ4, hr, h⟩ := ob h
    refine so_callV (As := [.int (0 : Int32), .int (0 : Int32)]) (rest := []) (pc := 17) hX dX5_tell_17 (c_X5_tryDoorF hL hr) mw_X5_tryDoor mv_X5_tryDoor ml_X5_45 (ekC hL rfl) (by decide) rfl rfl rfl rfl (by omega) (by decide) (Nat.le_of_ble_eq_true rfl) ?_
    refine so_aload_n (pc := 20) hX dX5_tell_20 0 rfl ?_
    refine so_gI (pc := 21) hX dX5_tell_21 fl_X5_41 (ekC hL rfl) ?_
    refine so_iconst (v := (3 : Int32)) (pc := 24) hX dX5_tell_24 (by decide) ?_
    refine so_icmp_le (pc := 25) hX 31 dX5_tell_25 (by decide) (fun hc5 => ?_) (fun hc5 => ?_)
    · have h := ip hc5 h
      refine so_aload_n (pc := 31) hX dX5_tell_31 0 rfl ?_
      refine so_gR (pc := 32) hX 89 dX5_tell_32 fl_X5_18 (ekC hL rfl) (erC hL rfl) ?_
      refine so_iconst (v := (-1 : Int32)) (pc := 35) hX dX5_tell_35 (by decide) ?_
      obtain ⟨μ6, hr, h⟩ := ob h
      refine so_callS (As := [.ref (evA (xV X) 89), .int (-1 : Int32)]) (rest := []) (pc := 36) hX dX5_tell_36 (c_J7_fill_53178 hL rfl rfl hr) mw_J7_fill_53178 ms_J7_fill_53178 ml_X5_31 rfl rfl (by omega) (by decide) (Nat.le_of_ble_eq_true rfl) ?_
      refine so_iconst (v := (0 : Int32)) (pc := 39) hX dX5_tell_39 (by decide) ?_
      refine so_istore_n (pc := 40) hX dX5_tell_40 [(1, .int (0 : Int32)), (0, .ref (evA (xV X) 88))] (by rw [hn]; decide) rfl ?_
      refine so_sub (pc := 41) (lv' := [(0, .ref (evA (xV X) 88)), (1, .int (0 : Int32))]) [1, 0] rfl ?_
      refine g_X5_tell_L41 hX hL hn hR (fun μ11 h => ?_) FU _ _ h
      refine so_aload_n (pc := 72) hX dX5_tell_72 0 rfl ?_
      refine so_gI (pc := 73) hX dX5_tell_73 fl_X5_41 (ekC hL rfl) ?_
      exact so_iretH (pc := 76) hX hR h rfl dX5_tell_76
    · have h := iq hc5 h
      refine so_bipush (v := (-2 : Int32)) (pc := 28) hX dX5_tell_28 (by decide) ?_
      exact so_iretH (pc := 30) hX hR h rfl dX5_tell_30
  · have h := ip hc3 h
    refine so_iconst (v := (-1 : Int32)) (pc := 7) hX dX5_tell_7 (by decide) ?_
    exact so_iretH (pc := 8) hX hR h rfl dX5_tell_8
set_option maxHeartbeats 4000000 in
set_option maxRecDepth 100000 in
theorem c_X7_byteAt {l : Launch} {V : Ev} (hL : V.2.2.2 = lyC) {v1 : Int32}  {μ : Mem} {rZ : Int32} {μZ : Mem} (h : f_X7_byteAt v1 μ = some (rZ, μZ)) : CT l V yX7_byteAt cX7_byteAt 2 (some .int) 0 [.ref (evA V 1), .int v1] μ μZ (some (.int rZ)) := by
  refine so_met [(0, .ref (evA V 1)), (1, .int v1)] (by decide) (Nat.le_of_ble_eq_true rfl) (evCn hL) rfl ?_
  intro X hl hV hn hX hR
  subst hl hV
  unfold f_X7_byteAt at h
  refine so_iconst (v := (0 : Int32)) (pc := 0) hX dX7_byteAt_0 (by decide) ?_
  refine so_iload_n (pc := 1) hX dX7_byteAt_1 1 rfl ?_
  refine so_icmp_gt (pc := 2) hX 22 dX7_byteAt_2 (by decide) (fun hc1 => ?_) (fun hc1 => ?_)
  · have h := ip hc1 h
    refine so_iconst (v := (-1 : Int32)) (pc := 22) hX dX7_byteAt_22 (by decide) ?_
    exact so_iretH (pc := 23) hX hR h rfl dX7_byteAt_23
  · have h := iq hc1 h
    refine so_iload_n (pc := 5) hX dX7_byteAt_5 1 rfl ?_
    refine so_aload_n (pc := 6) hX dX7_byteAt_6 0 rfl ?_
    refine so_gI (pc := 7) hX dX7_byteAt_7 fl_X7_15 (ekC hL rfl) ?_
    refine so_icmp_ge (pc := 10) hX 22 dX7_byteAt_10 (by decide) (fun hc2 => ?_) (fun hc2 => ?_)
    · have h := ip hc2 h
      refine so_iconst (v := (-1 : Int32)) (pc := 22) hX dX7_byteAt_22 (by decide) ?_
      exact so_iretH (pc := 23) hX hR h rfl dX7_byteAt_23
    · have h := iq hc2 h
      refine so_aload_n (pc := 13) hX dX7_byteAt_13 0 rfl ?_
      refine so_gR (pc := 14) hX 2 dX7_byteAt_14 fl_X7_11 (ekC hL rfl) (erC hL rfl) ?_
      refine so_iload_n (pc := 17) hX dX7_byteAt_17 1 rfl ?_
      obtain ⟨e3, hr, h⟩ := ob h
      refine so_iald (pc := 18) hX dX7_byteAt_18 (ekC hL rfl) (elC hL rfl) hr ?_
      refine so_goto (pc := 19) hX 23 dX7_byteAt_19 (by decide) ?_
      exact so_iretH (pc := 23) hX hR h rfl dX7_byteAt_23
set_option maxHeartbeats 4000000 in
set_option maxRecDepth 100000 in
theorem c_X6_isBlank {l : Launch} {V : Ev} (hL : V.2.2.2 = lyC) {v0 : Int32}  {μ : Mem} {rZ : Int32} {μZ : Mem} (h : f_X6_isBlank v0 μ = some (rZ, μZ)) : CT l V yX6_isBlank cX6_isBlank 1 (some .boolean) 0 [.int v0] μ μZ (some (.int rZ)) := by
  refine so_met [(0, .int v0)] (by decide) (Nat.le_of_ble_eq_true rfl) (evCn hL) rfl ?_
  intro X hl hV hn hX hR
  subst hl hV
  unfold f_X6_isBlank at h
  refine so_iload_n (pc := 0) hX dX6_isBlank_0 0 rfl ?_
  refine so_bipush (v := (10 : Int32)) (pc := 1) hX dX6_isBlank_1 (by decide) ?_
  refine so_icmp_eq (pc := 3) hX 12 dX6_isBlank_3 (by decide) (fun hc1 => ?_) (fun hc1 => ?_)
  · have h := ip hc1 h
    refine so_iconst (v := (1 : Int32)) (pc := 12) hX dX6_isBlank_12 (by decide) ?_
    refine so_goto (pc := 13) hX 17 dX6_isBlank_13 (by decide) ?_
    exact so_iretH (pc := 17) hX hR h (by decide) dX6_isBlank_17
  · have h := iq hc1 h
    refine so_iload_n (pc := 6) hX dX6_isBlank_6 0 rfl ?_
    refine so_bipush (v := (32 : Int32)) (pc := 7) hX dX6_isBlank_7 (by decide) ?_
    refine so_icmp_ne (pc := 9) hX 16 dX6_isBlank_9 (by decide) (fun hc2 => ?_) (fun hc2 => ?_)
    · have h := iq hc2 h
      refine so_iconst (v := (0 : Int32)) (pc := 16) hX dX6_isBlank_16 (by decide) ?_
      exact so_iretH (pc := 17) hX hR h (by decide) dX6_isBlank_17
    · have h := ip hc2 h
      refine so_iconst (v := (1 : Int32)) (pc := 12) hX dX6_isBlank_12 (by decide) ?_
      refine so_goto (pc := 13) hX 17 dX6_isBlank_13 (by decide) ?_
      exact so_iretH (pc := 17) hX hR h (by decide) dX6_isBlank_17
set_option maxHeartbeats 4000000 in
set_option maxRecDepth 100000 in
theorem g_X6_nextByte_L0 {X : Cx} (hX : Fx X cX6_nextByte RX6 1) (hL : (xV X).2.2.2 = lyC) (hn : xn X = 1) {rZ : Int32} {μZ : Mem} (hR : Rt X (some .int) μZ (some (.int rZ)))   {K : Mem → Option (Int32 × Mem)} (hK : ∀  (μ : Mem), K μ = some (rZ, μZ) → Gd X 44 [(0, .ref (evA (xV X) 3))] [] μ) : ∀ (n : Nat)  (μ : Mem), f_X6_nextByte_L0  K n μ = some (rZ, μZ) → Gd X 0 [(0, .ref (evA (xV X) 3))] [] μ := by
  intro n
  induction n with
  | zero => intro _ h; rw [f_X6_nextByte_L0] at h; cases h
  | succ n ih =>
    intro μ h
    rw [f_X6_nextByte_L0] at h
    refine so_aload_n (pc := 0) hX dX6_nextByte_0 0 rfl ?_
    refine so_gI (pc := 1) hX dX6_nextByte_1 fl_X6_29 (ekC hL rfl) ?_
    refine so_aload_n (pc := 4) hX dX6_nextByte_4 0 rfl ?_
    refine so_gR (pc := 5) hX 1 dX6_nextByte_5 fl_X6_12 (ekC hL rfl) (erC hL rfl) ?_
    refine so_gI (pc := 8) hX dX6_nextByte_8 fl_X6_93 (ekC hL rfl) ?_
    refine so_icmp_ge (pc := 11) hX 44 dX6_nextByte_11 (by decide) (fun hc1 => ?_) (fun hc1 => ?_)
    · have h := ip hc1 h
      refine so_sub (pc := 44) (lv' := [(0, .ref (evA (xV X) 3))]) [0] rfl ?_
      exact hK _ h
    · have h := iq hc1 h
      refine so_aload_n (pc := 14) hX dX6_nextByte_14 0 rfl ?_
      refine so_gR (pc := 15) hX 1 dX6_nextByte_15 fl_X6_12 (ekC hL rfl) (erC hL rfl) ?_
      refine so_aload_n (pc := 18) hX dX6_nextByte_18 0 rfl ?_
      refine so_gI (pc := 19) hX dX6_nextByte_19 fl_X6_29 (ekC hL rfl) ?_
      obtain ⟨r3, μ2, hr, h⟩ := obd h
      refine so_callV (As := [.int (μ.1 3 4)]) (rest := []) (pc := 22) hX dX6_nextByte_22 (c_X7_byteAt hL hr) mw_X7_byteAt mv_X7_byteAt ml_X6_96 (ekC hL rfl) (by decide) rfl rfl rfl rfl (by omega) (by decide) (Nat.le_of_ble_eq_true rfl) ?_
      obtain ⟨r5, μ4, hr, h⟩ := obd h
      refine so_callS (As := [.int r3]) (rest := []) (pc := 25) hX dX6_nextByte_25 (c_X6_isBlank hL hr) mw_X6_isBlank ms_X6_isBlank ml_X6_100 rfl rfl (by omega) (by decide) (Nat.le_of_ble_eq_true rfl) ?_
      refine so_if_eq (pc := 28) hX 44 dX6_nextByte_28 (by decide) (fun hc6 => ?_) (fun hc6 => ?_)
      · have h := ip hc6 h
        refine so_sub (pc := 44) (lv' := [(0, .ref (evA (xV X) 3))]) [0] rfl ?_
        exact hK _ h
      · have h := iq hc6 h
        refine so_aload_n (pc := 31) hX dX6_nextByte_31 0 rfl ?_
        refine so_dup (pc := 32) hX dX6_nextByte_32 rfl ?_
        refine so_gI (pc := 33) hX dX6_nextByte_33 fl_X6_29 (ekC hL rfl) ?_
        refine so_iconst (v := (1 : Int32)) (pc := 36) hX dX6_nextByte_36 (by decide) ?_
        refine so_iadd (pc := 37) hX dX6_nextByte_37 ?_
        refine so_pI (pc := 38) hX dX6_nextByte_38 fl_X6_29 fw_6_4 (ekC hL rfl) rfl rfl ?_
        refine so_goto (pc := 41) hX 0 dX6_nextByte_41 (by decide) ?_
        refine so_sub (pc := 0) (lv' := [(0, .ref (evA (xV X) 3))]) [0] rfl ?_
        exact ih _ h
set_option maxHeartbeats 4000000 in
set_option maxRecDepth 100000 in
theorem c_X6_nextByte {l : Launch} {V : Ev} (hL : V.2.2.2 = lyC)   {μ : Mem} {rZ : Int32} {μZ : Mem} (h : f_X6_nextByte  μ = some (rZ, μZ)) : CT l V yX6_nextByte cX6_nextByte 1 (some .int) 1 [.ref (evA V 3)] μ μZ (some (.int rZ)) := by
  refine so_met [(0, .ref (evA V 3))] (by decide) (Nat.le_of_ble_eq_true rfl) (evCn hL) rfl ?_
  intro X hl hV hn hX hR
  subst hl hV
  unfold f_X6_nextByte at h
  refine so_sub (pc := 0) (lv' := [(0, .ref (evA (xV X) 3))]) [0] rfl ?_
  refine g_X6_nextByte_L0 hX hL hn hR (fun μ7 h => ?_) FU _ h
  refine so_aload_n (pc := 44) hX dX6_nextByte_44 0 rfl ?_
  refine so_gR (pc := 45) hX 1 dX6_nextByte_45 fl_X6_12 (ekC hL rfl) (erC hL rfl) ?_
  refine so_aload_n (pc := 48) hX dX6_nextByte_48 0 rfl ?_
  refine so_gI (pc := 49) hX dX6_nextByte_49 fl_X6_29 (ekC hL rfl) ?_
  obtain ⟨r9, μ8, hr, h⟩ := obd h
  refine so_callV (As := [.int (μ7.1 3 4)]) (rest := []) (pc := 52) hX dX6_nextByte_52 (c_X7_byteAt hL hr) mw_X7_byteAt mv_X7_byteAt ml_X6_96 (ekC hL rfl) (by decide) rfl rfl rfl rfl (by omega) (by decide) (Nat.le_of_ble_eq_true rfl) ?_
  exact so_iretH (pc := 55) hX hR h rfl dX6_nextByte_55
set_option maxHeartbeats 4000000 in
set_option maxRecDepth 100000 in
theorem c_X6_refuse {l : Launch} {V : Ev} (hL : V.2.2.2 = lyC) {v1 : Int32} {v2 : Int32}  {μ : Mem} {rZ : Int32} {μZ : Mem} (h : f_X6_refuse v1 v2 μ = some (rZ, μZ)) : CT l V yX6_refuse cX6_refuse 3 (some .boolean) 0 [.ref (evA V 3), .int v1, .int v2] μ μZ (some (.int rZ)) := by
  refine so_met [(0, .ref (evA V 3)), (1, .int v1), (2, .int v2)] (by decide) (Nat.le_of_ble_eq_true rfl) (evCn hL) rfl ?_
  intro X hl hV hn hX hR
  subst hl hV
  unfold f_X6_refuse at h
  refine so_aload_n (pc := 0) hX dX6_refuse_0 0 rfl ?_
  refine so_iload_n (pc := 1) hX dX6_refuse_1 1 rfl ?_
  refine so_pI (pc := 2) hX dX6_refuse_2 fl_X6_32 fw_6_2 (ekC hL rfl) rfl rfl ?_
  refine so_aload_n (pc := 5) hX dX6_refuse_5 0 rfl ?_
  refine so_iload_n (pc := 6) hX dX6_refuse_6 2 rfl ?_
  refine so_pI (pc := 7) hX dX6_refuse_7 fl_X6_25 fw_6_3 (ekC hL rfl) rfl rfl ?_
  refine so_iconst (v := (0 : Int32)) (pc := 10) hX dX6_refuse_10 (by decide) ?_
  exact so_iretH (pc := 11) hX hR h (by decide) dX6_refuse_11
set_option maxHeartbeats 4000000 in
set_option maxRecDepth 100000 in
theorem c_X6_drawPiece {l : Launch} {V : Ev} (hL : V.2.2.2 = lyC) {v1 : Int32} {v2 : Int32} {v3 : Int32}  {μ : Mem} {rZ : Int32} {μZ : Mem} (h : f_X6_drawPiece v1 v2 v3 μ = some (rZ, μZ)) : CT l V yX6_drawPiece cX6_drawPiece 4 (some .boolean) 1 [.ref (evA V 3), .int v1, .int v2, .int v3] μ μZ (some (.int rZ)) := by
  refine so_met [(0, .ref (evA V 3)), (1, .int v1), (2, .int v2), (3, .int v3)] (by decide) (Nat.le_of_ble_eq_true rfl) (evCn hL) rfl ?_
  intro X hl hV hn hX hR
  subst hl hV
  unfold f_X6_drawPiece at h
  refine so_aload_n (pc := 0) hX dX6_drawPiece_0 0 rfl ?_
  refine so_gR (pc := 1) hX 4 dX6_drawPiece_1 fl_X6_21 (ekC hL rfl) (erC hL rfl) ?_
  refine so_iload_n (pc := 4) hX dX6_drawPiece_4 1 rfl ?_
  refine so_iload_n (pc := 5) hX dX6_drawPiece_5 2 rfl ?_
  refine so_iload_n (pc := 6) hX dX6_drawPiece_6 3 rfl ?_
  obtain ⟨μ1, hr, h⟩ := ob h
  refine so_callV (As := [.int v1, .int v2, .int v3]) (rest := []) (pc := 7) hX dX6_drawPiece_7 (c_X1_setCell hL rfl hr) mw_X1_setCell mv_X1_setCell ml_X6_78 (ekC hL rfl) (by decide) rfl rfl rfl rfl (by omega) (by decide) (Nat.le_of_ble_eq_true rfl) ?_
  refine so_aload_n (pc := 10) hX dX6_drawPiece_10 0 rfl ?_
  refine so_iconst (v := (1 : Int32)) (pc := 11) hX dX6_drawPiece_11 (by decide) ?_
  refine so_pI (pc := 12) hX dX6_drawPiece_12 fl_X6_47 fw_6_5 (ekC hL rfl) rfl rfl ?_
  refine so_aload_n (pc := 15) hX dX6_drawPiece_15 0 rfl ?_
  refine so_iconst (v := (1 : Int32)) (pc := 16) hX dX6_drawPiece_16 (by decide) ?_
  refine so_pI (pc := 17) hX dX6_drawPiece_17 fl_X6_51 fw_6_6 (ekC hL rfl) rfl rfl ?_
  refine so_iconst (v := (1 : Int32)) (pc := 20) hX dX6_drawPiece_20 (by decide) ?_
  exact so_iretH (pc := 21) hX hR h (by decide) dX6_drawPiece_21
set_option maxHeartbeats 4000000 in
set_option maxRecDepth 100000 in
theorem c_X6_readRepeated {l : Launch} {V : Ev} (hL : V.2.2.2 = lyC) {rk : Nat → Int32 → Int32 → Int32 → Int32 → Mem → Option (Int32 × Mem)} {dc : Nat} (hdc : 12 ≤ dc) (hrec_readRow : ∀ (x0 x1 x2 : Int32) (μ : Mem) (r : Int32) (μ2 : Mem), rk 0 x0 x1 x2 0 μ = some (r, μ2) → CT l V yX6_readRow cX6_readRow 8 (some .boolean) dc [.ref (evA V 3), .int x0, .int x1, .int x2] μ μ2 (some (.int r))) (hrec_readColumn : ∀ (x0 x1 x2 : Int32) (μ : Mem) (r : Int32) (μ2 : Mem), rk 1 x0 x1 x2 0 μ = some (r, μ2) → CT l V yX6_readColumn cX6_readColumn 8 (some .boolean) dc [.ref (evA V 3), .int x0, .int x1, .int x2] μ μ2 (some (.int r))) (hrec_readPart : ∀ (x0 x1 x2 : Int32) (μ : Mem) (r : Int32) (μ2 : Mem), rk 2 x0 x1 x2 0 μ = some (r, μ2) → CT l V yX6_readPart cX6_readPart 8 (some .boolean) dc [.ref (evA V 3), .int x0, .int x1, .int x2] μ μ2 (some (.int r))) (hrec_readBracket : ∀ (x0 x1 x2 : Int32) (μ : Mem) (r : Int32) (μ2 : Mem), rk 3 x0 x1 x2 0 μ = some (r, μ2) → CT l V yX6_readBracket cX6_readBracket 4 (some .boolean) dc [.ref (evA V 3), .int x0, .int x1, .int x2] μ μ2 (some (.int r))) (hrec_readChanged : ∀ (x0 x1 x2 x3 : Int32) (μ : Mem) (r : Int32) (μ2 : Mem), rk 4 x0 x1 x2 x3 μ = some (r, μ2) → CT l V yX6_readChanged cX6_readChanged 5 (some .boolean) dc [.ref (evA V 3), .int x0, .int x1, .int x2, .int x3] μ μ2 (some (.int r))) (hrec_readRepeated : ∀ (x0 x1 x2 x3 : Int32) (μ : Mem) (r : Int32) (μ2 : Mem), rk 5 x0 x1 x2 x3 μ = some (r, μ2) → CT l V yX6_readRepeated cX6_readRepeated 6 (some .boolean) dc [.ref (evA V 3), .int x0, .int x1, .int x2, .int x3] μ μ2 (some (.int r))) {v1 : Int32} {v2 : Int32} {v3 : Int32} {v4 : Int32}  {μ : Mem} {rZ : Int32} {μZ : Mem} (h : f_X6_readRepeated rk v1 v2 v3 v4 μ = some (rZ, μZ)) : CT l V yX6_readRepeated cX6_readRepeated 6 (some .boolean) (dc + 1) [.ref (evA V 3), .int v1, .int v2, .int v3, .int v4] μ μZ (some (.int rZ)) := by
  refine so_met [(0, .ref (evA V 3)), (1, .int v1), (2, .int v2), (3, .int v3), (4, .int v4)] (by decide) (Nat.le_of_ble_eq_true rfl) (evCn hL) rfl ?_
  intro X hl hV hn hX hR
  subst hl hV
  unfold f_X6_readRepeated at h
  refine so_aload_n (pc := 0) hX dX6_readRepeated_0 0 rfl ?_
  refine so_gI (pc := 1) hX dX6_readRepeated_1 fl_X6_29 (ekC hL rfl) ?_
  refine so_istore (pc := 4) hX dX6_readRepeated_4 [(5, .int (μ.1 3 4)), (0, .ref (evA (xV X) 3)), (1, .int v1), (2, .int v2), (3, .int v3), (4, .int v4)] (by rw [hn]; decide) rfl ?_
  refine so_aload_n (pc := 6) hX dX6_readRepeated_6 1 rfl ?_
  refine so_dup (pc := 7) hX dX6_readRepeated_7 rfl ?_
  refine so_gI (pc := 8) hX dX6_readRepeated_8 fl_X6_29 (ekC hL rfl) ?_
  refine so_iconst (v := (1 : Int32)) (pc := 11) hX dX6_readRepeated_11 (by decide) ?_
  refine so_iadd (pc := 12) hX dX6_readRepeated_12 ?_
  refine so_pI (pc := 13) hX dX6_readRepeated_13 fl_X6_29 fw_6_4 (ekC hL rfl) rfl rfl ?_
  refine so_aload_n (pc := 16) hX dX6_readRepeated_16 1 rfl ?_
  refine so_iload_n (pc := 17) hX dX6_readRepeated_17 2 rfl ?_
  refine so_iload_n (pc := 18) hX dX6_readRepeated_18 3 rfl ?_
  refine so_iload_n (pc := 19) hX dX6_readRepeated_19 4 rfl ?_
  obtain ⟨r2, μ1, hr, h⟩ := obd h
  refine so_callV (As := [.int v1, .int v2, .int v3]) (rest := []) (pc := 20) hX dX6_readRepeated_20 (hrec_readPart _ _ _ _ _ _ hr) mw_X6_readPart mv_X6_readPart ml_X6_58 (ekC hL rfl) (by decide) rfl rfl rfl rfl (Nat.le_refl _) (by decide) (Nat.le_of_ble_eq_true rfl) ?_
  refine so_if_ne (pc := 23) hX 28 dX6_readRepeated_23 (by decide) (fun hc3 => ?_) (fun hc3 => ?_)
  · have h := iq hc3 h
    refine so_aload_n (pc := 28) hX dX6_readRepeated_28 1 rfl ?_
    refine so_gI (pc := 29) hX dX6_readRepeated_29 fl_X6_47 (ekC hL rfl) ?_
    refine so_iload (pc := 32) hX dX6_readRepeated_32 5 rfl ?_
    refine so_imul (pc := 34) hX dX6_readRepeated_34 ?_
    refine so_bipush (v := (8 : Int32)) (pc := 35) hX dX6_readRepeated_35 (by decide) ?_
    refine so_icmp_le (pc := 37) hX 48 dX6_readRepeated_37 (by decide) (fun hc4 => ?_) (fun hc4 => ?_)
    · have h := ip hc4 h
      refine so_aload_n (pc := 48) hX dX6_readRepeated_48 1 rfl ?_
      refine so_gR (pc := 49) hX 4 dX6_readRepeated_49 fl_X6_21 (ekC hL rfl) (erC hL rfl) ?_
      refine so_iload_n (pc := 52) hX dX6_readRepeated_52 2 rfl ?_
      refine so_iload_n (pc := 53) hX dX6_readRepeated_53 3 rfl ?_
      refine so_aload_n (pc := 54) hX dX6_readRepeated_54 1 rfl ?_
      refine so_gI (pc := 55) hX dX6_readRepeated_55 fl_X6_47 (ekC hL rfl) ?_
      refine so_aload_n (pc := 58) hX dX6_readRepeated_58 1 rfl ?_
      refine so_gI (pc := 59) hX dX6_readRepeated_59 fl_X6_51 (ekC hL rfl) ?_
      refine so_iload (pc := 62) hX dX6_readRepeated_62 5 rfl ?_
      obtain ⟨μ5, hr, h⟩ := ob h
      refine so_callV (As := [.int v1, .int v2, .int (μ1.1 3 5), .int (μ1.1 3 6), .int v4]) (rest := []) (pc := 64) hX dX6_readRepeated_64 (c_X1_repeat hL rfl hr) mw_X1_repeat mv_X1_repeat ml_X6_89 (ekC hL rfl) (by decide) rfl rfl rfl rfl (by omega) (by decide) (Nat.le_of_ble_eq_true rfl) ?_
      refine so_aload_n (pc := 67) hX dX6_readRepeated_67 1 rfl ?_
      refine so_dup (pc := 68) hX dX6_readRepeated_68 rfl ?_
      refine so_gI (pc := 69) hX dX6_readRepeated_69 fl_X6_47 (ekC hL rfl) ?_
      refine so_iload (pc := 72) hX dX6_readRepeated_72 5 rfl ?_
      refine so_imul (pc := 74) hX dX6_readRepeated_74 ?_
      refine so_pI (pc := 75) hX dX6_readRepeated_75 fl_X6_47 fw_6_5 (ekC hL rfl) rfl rfl ?_
      refine so_iconst (v := (1 : Int32)) (pc := 78) hX dX6_readRepeated_78 (by decide) ?_
      exact so_iretH (pc := 79) hX hR h (by decide) dX6_readRepeated_79
    · have h := iq hc4 h
      refine so_aload_n (pc := 40) hX dX6_readRepeated_40 1 rfl ?_
      refine so_iconst (v := (3 : Int32)) (pc := 41) hX dX6_readRepeated_41 (by decide) ?_
      refine so_iload (pc := 42) hX dX6_readRepeated_42 0 rfl ?_
      obtain ⟨r7, μ6, hr, h⟩ := obd h
      refine so_callV (As := [.int (3 : Int32), .int (μ.1 3 4)]) (rest := []) (pc := 44) hX dX6_readRepeated_44 (c_X6_refuse hL hr) mw_X6_refuse mv_X6_refuse ml_X6_43 (ekC hL rfl) (by decide) rfl rfl rfl rfl (by omega) (by decide) (Nat.le_of_ble_eq_true rfl) ?_
      exact so_zretH (pc := 47) hX hR h dX6_readRepeated_47
  · have h := ip hc3 h
    refine so_iconst (v := (0 : Int32)) (pc := 26) hX dX6_readRepeated_26 (by decide) ?_
    exact so_iretH (pc := 27) hX hR h (by decide) dX6_readRepeated_27
set_option maxHeartbeats 4000000 in
set_option maxRecDepth 100000 in
theorem c_X6_readBracket {l : Launch} {V : Ev} (hL : V.2.2.2 = lyC) {rk : Nat → Int32 → Int32 → Int32 → Int32 → Mem → Option (Int32 × Mem)} {dc : Nat} (hdc : 12 ≤ dc) (hrec_readRow : ∀ (x0 x1 x2 : Int32) (μ : Mem) (r : Int32) (μ2 : Mem), rk 0 x0 x1 x2 0 μ = some (r, μ2) → CT l V yX6_readRow cX6_readRow 8 (some .boolean) dc [.ref (evA V 3), .int x0, .int x1, .int x2] μ μ2 (some (.int r))) (hrec_readColumn : ∀ (x0 x1 x2 : Int32) (μ : Mem) (r : Int32) (μ2 : Mem), rk 1 x0 x1 x2 0 μ = some (r, μ2) → CT l V yX6_readColumn cX6_readColumn 8 (some .boolean) dc [.ref (evA V 3), .int x0, .int x1, .int x2] μ μ2 (some (.int r))) (hrec_readPart : ∀ (x0 x1 x2 : Int32) (μ : Mem) (r : Int32) (μ2 : Mem), rk 2 x0 x1 x2 0 μ = some (r, μ2) → CT l V yX6_readPart cX6_readPart 8 (some .boolean) dc [.ref (evA V 3), .int x0, .int x1, .int x2] μ μ2 (some (.int r))) (hrec_readBracket : ∀ (x0 x1 x2 : Int32) (μ : Mem) (r : Int32) (μ2 : Mem), rk 3 x0 x1 x2 0 μ = some (r, μ2) → CT l V yX6_readBracket cX6_readBracket 4 (some .boolean) dc [.ref (evA V 3), .int x0, .int x1, .int x2] μ μ2 (some (.int r))) (hrec_readChanged : ∀ (x0 x1 x2 x3 : Int32) (μ : Mem) (r : Int32) (μ2 : Mem), rk 4 x0 x1 x2 x3 μ = some (r, μ2) → CT l V yX6_readChanged cX6_readChanged 5 (some .boolean) dc [.ref (evA V 3), .int x0, .int x1, .int x2, .int x3] μ μ2 (some (.int r))) (hrec_readRepeated : ∀ (x0 x1 x2 x3 : Int32) (μ : Mem) (r : Int32) (μ2 : Mem), rk 5 x0 x1 x2 x3 μ = some (r, μ2) → CT l V yX6_readRepeated cX6_readRepeated 6 (some .boolean) dc [.ref (evA V 3), .int x0, .int x1, .int x2, .int x3] μ μ2 (some (.int r))) {v1 : Int32} {v2 : Int32} {v3 : Int32}  {μ : Mem} {rZ : Int32} {μZ : Mem} (h : f_X6_readBracket rk v1 v2 v3 μ = some (rZ, μZ)) : CT l V yX6_readBracket cX6_readBracket 4 (some .boolean) (dc + 1) [.ref (evA V 3), .int v1, .int v2, .int v3] μ μZ (some (.int rZ)) := by
  refine so_met [(0, .ref (evA V 3)), (1, .int v1), (2, .int v2), (3, .int v3)] (by decide) (Nat.le_of_ble_eq_true rfl) (evCn hL) rfl ?_
  intro X hl hV hn hX hR
  subst hl hV
  unfold f_X6_readBracket at h
  refine so_aload_n (pc := 0) hX dX6_readBracket_0 0 rfl ?_
  refine so_iload_n (pc := 1) hX dX6_readBracket_1 1 rfl ?_
  refine so_iload_n (pc := 2) hX dX6_readBracket_2 2 rfl ?_
  refine so_iload_n (pc := 3) hX dX6_readBracket_3 3 rfl ?_
  obtain ⟨r2, μ1, hr, h⟩ := obd h
  refine so_callV (As := [.int v1, .int v2, .int v3]) (rest := []) (pc := 4) hX dX6_readBracket_4 (hrec_readRow _ _ _ _ _ _ hr) mw_X6_readRow mv_X6_readRow ml_X6_35 (ekC hL rfl) (by decide) rfl rfl rfl rfl (Nat.le_refl _) (by decide) (Nat.le_of_ble_eq_true rfl) ?_
  refine so_if_ne (pc := 7) hX 12 dX6_readBracket_7 (by decide) (fun hc3 => ?_) (fun hc3 => ?_)
  · have h := iq hc3 h
    refine so_aload_n (pc := 12) hX dX6_readBracket_12 0 rfl ?_
    obtain ⟨r5, μ4, hr, h⟩ := obd h
    refine so_callV (As := []) (rest := []) (pc := 13) hX dX6_readBracket_13 (c_X6_nextByte hL hr) mw_X6_nextByte mv_X6_nextByte ml_X6_39 (ekC hL rfl) (by decide) rfl rfl rfl rfl (by omega) (by decide) (Nat.le_of_ble_eq_true rfl) ?_
    refine so_bipush (v := (41 : Int32)) (pc := 16) hX dX6_readBracket_16 (by decide) ?_
    refine so_icmp_eq (pc := 18) hX 31 dX6_readBracket_18 (by decide) (fun hc6 => ?_) (fun hc6 => ?_)
    · have h := ip hc6 h
      refine so_aload_n (pc := 31) hX dX6_readBracket_31 0 rfl ?_
      refine so_dup (pc := 32) hX dX6_readBracket_32 rfl ?_
      refine so_gI (pc := 33) hX dX6_readBracket_33 fl_X6_29 (ekC hL rfl) ?_
      refine so_iconst (v := (1 : Int32)) (pc := 36) hX dX6_readBracket_36 (by decide) ?_
      refine so_iadd (pc := 37) hX dX6_readBracket_37 ?_
      refine so_pI (pc := 38) hX dX6_readBracket_38 fl_X6_29 fw_6_4 (ekC hL rfl) rfl rfl ?_
      refine so_iconst (v := (1 : Int32)) (pc := 41) hX dX6_readBracket_41 (by decide) ?_
      exact so_iretH (pc := 42) hX hR h (by decide) dX6_readBracket_42
    · have h := iq hc6 h
      refine so_aload_n (pc := 21) hX dX6_readBracket_21 0 rfl ?_
      refine so_iconst (v := (1 : Int32)) (pc := 22) hX dX6_readBracket_22 (by decide) ?_
      refine so_aload_n (pc := 23) hX dX6_readBracket_23 0 rfl ?_
      refine so_gI (pc := 24) hX dX6_readBracket_24 fl_X6_29 (ekC hL rfl) ?_
      obtain ⟨r8, μ7, hr, h⟩ := obd h
      refine so_callV (As := [.int (1 : Int32), .int (μ4.1 3 4)]) (rest := []) (pc := 27) hX dX6_readBracket_27 (c_X6_refuse hL hr) mw_X6_refuse mv_X6_refuse ml_X6_43 (ekC hL rfl) (by decide) rfl rfl rfl rfl (by omega) (by decide) (Nat.le_of_ble_eq_true rfl) ?_
      exact so_zretH (pc := 30) hX hR h dX6_readBracket_30
  · have h := ip hc3 h
    refine so_iconst (v := (0 : Int32)) (pc := 10) hX dX6_readBracket_10 (by decide) ?_
    exact so_iretH (pc := 11) hX hR h (by decide) dX6_readBracket_11
set_option maxHeartbeats 4000000 in
set_option maxRecDepth 100000 in
theorem c_X6_readChanged {l : Launch} {V : Ev} (hL : V.2.2.2 = lyC) {rk : Nat → Int32 → Int32 → Int32 → Int32 → Mem → Option (Int32 × Mem)} {dc : Nat} (hdc : 12 ≤ dc) (hrec_readRow : ∀ (x0 x1 x2 : Int32) (μ : Mem) (r : Int32) (μ2 : Mem), rk 0 x0 x1 x2 0 μ = some (r, μ2) → CT l V yX6_readRow cX6_readRow 8 (some .boolean) dc [.ref (evA V 3), .int x0, .int x1, .int x2] μ μ2 (some (.int r))) (hrec_readColumn : ∀ (x0 x1 x2 : Int32) (μ : Mem) (r : Int32) (μ2 : Mem), rk 1 x0 x1 x2 0 μ = some (r, μ2) → CT l V yX6_readColumn cX6_readColumn 8 (some .boolean) dc [.ref (evA V 3), .int x0, .int x1, .int x2] μ μ2 (some (.int r))) (hrec_readPart : ∀ (x0 x1 x2 : Int32) (μ : Mem) (r : Int32) (μ2 : Mem), rk 2 x0 x1 x2 0 μ = some (r, μ2) → CT l V yX6_readPart cX6_readPart 8 (some .boolean) dc [.ref (evA V 3), .int x0, .int x1, .int x2] μ μ2 (some (.int r))) (hrec_readBracket : ∀ (x0 x1 x2 : Int32) (μ : Mem) (r : Int32) (μ2 : Mem), rk 3 x0 x1 x2 0 μ = some (r, μ2) → CT l V yX6_readBracket cX6_readBracket 4 (some .boolean) dc [.ref (evA V 3), .int x0, .int x1, .int x2] μ μ2 (some (.int r))) (hrec_readChanged : ∀ (x0 x1 x2 x3 : Int32) (μ : Mem) (r : Int32) (μ2 : Mem), rk 4 x0 x1 x2 x3 μ = some (r, μ2) → CT l V yX6_readChanged cX6_readChanged 5 (some .boolean) dc [.ref (evA V 3), .int x0, .int x1, .int x2, .int x3] μ μ2 (some (.int r))) (hrec_readRepeated : ∀ (x0 x1 x2 x3 : Int32) (μ : Mem) (r : Int32) (μ2 : Mem), rk 5 x0 x1 x2 x3 μ = some (r, μ2) → CT l V yX6_readRepeated cX6_readRepeated 6 (some .boolean) dc [.ref (evA V 3), .int x0, .int x1, .int x2, .int x3] μ μ2 (some (.int r))) {v1 : Int32} {v2 : Int32} {v3 : Int32} {v4 : Int32}  {μ : Mem} {rZ : Int32} {μZ : Mem} (h : f_X6_readChanged rk v1 v2 v3 v4 μ = some (rZ, μZ)) : CT l V yX6_readChanged cX6_readChanged 5 (some .boolean) (dc + 1) [.ref (evA V 3), .int v1, .int v2, .int v3, .int v4] μ μZ (some (.int rZ)) := by
  refine so_met [(0, .ref (evA V 3)), (1, .int v1), (2, .int v2), (3, .int v3), (4, .int v4)] (by decide) (Nat.le_of_ble_eq_true rfl) (evCn hL) rfl ?_
  intro X hl hV hn hX hR
  subst hl hV
  unfold f_X6_readChanged at h
  refine so_aload_n (pc := 0) hX dX6_readChanged_0 0 rfl ?_
  refine so_iload_n (pc := 1) hX dX6_readChanged_1 1 rfl ?_
  refine so_iload_n (pc := 2) hX dX6_readChanged_2 2 rfl ?_
  refine so_iload_n (pc := 3) hX dX6_readChanged_3 3 rfl ?_
  obtain ⟨r2, μ1, hr, h⟩ := obd h
  refine so_callV (As := [.int v1, .int v2, .int v3]) (rest := []) (pc := 4) hX dX6_readChanged_4 (hrec_readPart _ _ _ _ _ _ hr) mw_X6_readPart mv_X6_readPart ml_X6_58 (ekC hL rfl) (by decide) rfl rfl rfl rfl (Nat.le_refl _) (by decide) (Nat.le_of_ble_eq_true rfl) ?_
  refine so_if_ne (pc := 7) hX 12 dX6_readChanged_7 (by decide) (fun hc3 => ?_) (fun hc3 => ?_)
  · have h := iq hc3 h
    refine so_aload_n (pc := 12) hX dX6_readChanged_12 0 rfl ?_
    refine so_gR (pc := 13) hX 4 dX6_readChanged_13 fl_X6_21 (ekC hL rfl) (erC hL rfl) ?_
    refine so_iload_n (pc := 16) hX dX6_readChanged_16 1 rfl ?_
    refine so_iload_n (pc := 17) hX dX6_readChanged_17 2 rfl ?_
    refine so_aload_n (pc := 18) hX dX6_readChanged_18 0 rfl ?_
    refine so_gI (pc := 19) hX dX6_readChanged_19 fl_X6_47 (ekC hL rfl) ?_
    refine so_aload_n (pc := 22) hX dX6_readChanged_22 0 rfl ?_
    refine so_gI (pc := 23) hX dX6_readChanged_23 fl_X6_51 (ekC hL rfl) ?_
    obtain ⟨μ4, hr, h⟩ := ob h
    refine so_callV (As := [.int v1, .int v2, .int (μ1.1 3 5), .int (μ1.1 3 6)]) (rest := []) (pc := 26) hX dX6_readChanged_26 (c_X1_changeSides hL rfl hr) mw_X1_changeSides mv_X1_changeSides ml_X6_82 (ekC hL rfl) (by decide) rfl rfl rfl rfl (by omega) (by decide) (Nat.le_of_ble_eq_true rfl) ?_
    refine so_iload (pc := 29) hX dX6_readChanged_29 4 rfl ?_
    refine so_if_eq (pc := 31) hX 51 dX6_readChanged_31 (by decide) (fun hc5 => ?_) (fun hc5 => ?_)
    · have h := ip hc5 h
      refine so_iconst (v := (1 : Int32)) (pc := 51) hX dX6_readChanged_51 (by decide) ?_
      exact so_iretH (pc := 52) hX hR h (by decide) dX6_readChanged_52
    · have h := iq hc5 h
      refine so_aload_n (pc := 34) hX dX6_readChanged_34 0 rfl ?_
      refine so_gR (pc := 35) hX 4 dX6_readChanged_35 fl_X6_21 (ekC hL rfl) (erC hL rfl) ?_
      refine so_iload_n (pc := 38) hX dX6_readChanged_38 1 rfl ?_
      refine so_iload_n (pc := 39) hX dX6_readChanged_39 2 rfl ?_
      refine so_aload_n (pc := 40) hX dX6_readChanged_40 0 rfl ?_
      refine so_gI (pc := 41) hX dX6_readChanged_41 fl_X6_47 (ekC hL rfl) ?_
      refine so_aload_n (pc := 44) hX dX6_readChanged_44 0 rfl ?_
      refine so_gI (pc := 45) hX dX6_readChanged_45 fl_X6_51 (ekC hL rfl) ?_
      obtain ⟨μ6, hr, h⟩ := ob h
      refine so_callV (As := [.int v1, .int v2, .int (μ4.1 3 5), .int (μ4.1 3 6)]) (rest := []) (pc := 48) hX dX6_readChanged_48 (c_X1_changeEnds hL rfl hr) mw_X1_changeEnds mv_X1_changeEnds ml_X6_86 (ekC hL rfl) (by decide) rfl rfl rfl rfl (by omega) (by decide) (Nat.le_of_ble_eq_true rfl) ?_
      refine so_iconst (v := (1 : Int32)) (pc := 51) hX dX6_readChanged_51 (by decide) ?_
      exact so_iretH (pc := 52) hX hR h (by decide) dX6_readChanged_52
  · have h := ip hc3 h
    refine so_iconst (v := (0 : Int32)) (pc := 10) hX dX6_readChanged_10 (by decide) ?_
    exact so_iretH (pc := 11) hX hR h (by decide) dX6_readChanged_11
set_option maxHeartbeats 4000000 in
set_option maxRecDepth 100000 in
theorem c_X6_readPart {l : Launch} {V : Ev} (hL : V.2.2.2 = lyC) {rk : Nat → Int32 → Int32 → Int32 → Int32 → Mem → Option (Int32 × Mem)} {dc : Nat} (hdc : 12 ≤ dc) (hrec_readRow : ∀ (x0 x1 x2 : Int32) (μ : Mem) (r : Int32) (μ2 : Mem), rk 0 x0 x1 x2 0 μ = some (r, μ2) → CT l V yX6_readRow cX6_readRow 8 (some .boolean) dc [.ref (evA V 3), .int x0, .int x1, .int x2] μ μ2 (some (.int r))) (hrec_readColumn : ∀ (x0 x1 x2 : Int32) (μ : Mem) (r : Int32) (μ2 : Mem), rk 1 x0 x1 x2 0 μ = some (r, μ2) → CT l V yX6_readColumn cX6_readColumn 8 (some .boolean) dc [.ref (evA V 3), .int x0, .int x1, .int x2] μ μ2 (some (.int r))) (hrec_readPart : ∀ (x0 x1 x2 : Int32) (μ : Mem) (r : Int32) (μ2 : Mem), rk 2 x0 x1 x2 0 μ = some (r, μ2) → CT l V yX6_readPart cX6_readPart 8 (some .boolean) dc [.ref (evA V 3), .int x0, .int x1, .int x2] μ μ2 (some (.int r))) (hrec_readBracket : ∀ (x0 x1 x2 : Int32) (μ : Mem) (r : Int32) (μ2 : Mem), rk 3 x0 x1 x2 0 μ = some (r, μ2) → CT l V yX6_readBracket cX6_readBracket 4 (some .boolean) dc [.ref (evA V 3), .int x0, .int x1, .int x2] μ μ2 (some (.int r))) (hrec_readChanged : ∀ (x0 x1 x2 x3 : Int32) (μ : Mem) (r : Int32) (μ2 : Mem), rk 4 x0 x1 x2 x3 μ = some (r, μ2) → CT l V yX6_readChanged cX6_readChanged 5 (some .boolean) dc [.ref (evA V 3), .int x0, .int x1, .int x2, .int x3] μ μ2 (some (.int r))) (hrec_readRepeated : ∀ (x0 x1 x2 x3 : Int32) (μ : Mem) (r : Int32) (μ2 : Mem), rk 5 x0 x1 x2 x3 μ = some (r, μ2) → CT l V yX6_readRepeated cX6_readRepeated 6 (some .boolean) dc [.ref (evA V 3), .int x0, .int x1, .int x2, .int x3] μ μ2 (some (.int r))) {v1 : Int32} {v2 : Int32} {v3 : Int32}  {μ : Mem} {rZ : Int32} {μZ : Mem} (h : f_X6_readPart rk v1 v2 v3 μ = some (rZ, μZ)) : CT l V yX6_readPart cX6_readPart 8 (some .boolean) (dc + 1) [.ref (evA V 3), .int v1, .int v2, .int v3] μ μZ (some (.int rZ)) := by
  refine so_met [(0, .ref (evA V 3)), (1, .int v1), (2, .int v2), (3, .int v3)] (by decide) (Nat.le_of_ble_eq_true rfl) (evCn hL) rfl ?_
  intro X hl hV hn hX hR
  subst hl hV
  unfold f_X6_readPart at h
  refine so_aload_n (pc := 0) hX dX6_readPart_0 0 rfl ?_
  obtain ⟨r2, μ1, hr, h⟩ := obd h
  refine so_callV (As := []) (rest := []) (pc := 1) hX dX6_readPart_1 (c_X6_nextByte hL hr) mw_X6_nextByte mv_X6_nextByte ml_X6_39 (ekC hL rfl) (by decide) rfl rfl rfl rfl (by omega) (by decide) (Nat.le_of_ble_eq_true rfl) ?_
  refine so_istore (pc := 4) hX dX6_readPart_4 [(4, .int r2), (0, .ref (evA (xV X) 3)), (1, .int v1), (2, .int v2), (3, .int v3)] (by rw [hn]; decide) rfl ?_
  refine so_aload_n (pc := 6) hX dX6_readPart_6 1 rfl ?_
  refine so_gI (pc := 7) hX dX6_readPart_7 fl_X6_29 (ekC hL rfl) ?_
  refine so_istore (pc := 10) hX dX6_readPart_10 [(5, .int (μ1.1 3 4)), (4, .int r2), (0, .ref (evA (xV X) 3)), (1, .int v1), (2, .int v2), (3, .int v3)] (by rw [hn]; decide) rfl ?_
  refine so_iload (pc := 12) hX dX6_readPart_12 1 rfl ?_
  refine so_bipush (v := (48 : Int32)) (pc := 14) hX dX6_readPart_14 (by decide) ?_
  refine so_bipush (v := (57 : Int32)) (pc := 16) hX dX6_readPart_16 (by decide) ?_
  obtain ⟨r4, μ3, hr, h⟩ := obd h
  refine so_callSN (As := [.int r2, .int (48 : Int32), .int (57 : Int32)]) (rest := []) (pc := 18) hX dX6_readPart_18 (c_X9_isFrom hL hr) mw_X9_isFrom ms_X9_isFrom ml_X6_61 rfl rfl (by omega) (by decide) (Nat.le_of_ble_eq_true rfl) ?_
  refine so_istore (pc := 21) hX dX6_readPart_21 [(6, .int r4), (5, .int (μ1.1 3 4)), (4, .int r2), (0, .ref (evA (xV X) 3)), (1, .int v1), (2, .int v2), (3, .int v3)] (by rw [hn]; decide) rfl ?_
  refine so_iload (pc := 23) hX dX6_readPart_23 0 rfl ?_
  refine so_if_ne (pc := 25) hX 57 dX6_readPart_25 (by decide) (fun hc5 => ?_) (fun hc5 => ?_)
  · have h := iq hc5 h
    refine so_aload_n (pc := 57) hX dX6_readPart_57 3 rfl ?_
    refine so_dup (pc := 58) hX dX6_readPart_58 rfl ?_
    refine so_gI (pc := 59) hX dX6_readPart_59 fl_X6_29 (ekC hL rfl) ?_
    refine so_iconst (v := (1 : Int32)) (pc := 62) hX dX6_readPart_62 (by decide) ?_
    refine so_iadd (pc := 63) hX dX6_readPart_63 ?_
    refine so_pI (pc := 64) hX dX6_readPart_64 fl_X6_29 fw_6_4 (ekC hL rfl) rfl rfl ?_
    refine so_iload (pc := 67) hX dX6_readPart_67 2 rfl ?_
    refine so_bipush (v := (50 : Int32)) (pc := 69) hX dX6_readPart_69 (by decide) ?_
    refine so_bipush (v := (57 : Int32)) (pc := 71) hX dX6_readPart_71 (by decide) ?_
    obtain ⟨r81, μ80, hr, h⟩ := obd h
    refine so_callSN (As := [.int r2, .int (50 : Int32), .int (57 : Int32)]) (rest := []) (pc := 73) hX dX6_readPart_73 (c_X9_isFrom hL hr) mw_X9_isFrom ms_X9_isFrom ml_X6_61 rfl rfl (by omega) (by decide) (Nat.le_of_ble_eq_true rfl) ?_
    refine so_if_eq (pc := 76) hX 92 dX6_readPart_76 (by decide) (fun hc82 => ?_) (fun hc82 => ?_)
    · have h := ip hc82 h
      refine so_iconst (v := (0 : Int32)) (pc := 92) hX dX6_readPart_92 (by decide) ?_
      refine so_istore (pc := 93) hX dX6_readPart_93 [(7, .int (0 : Int32)), (6, .int r4), (5, .int (μ1.1 3 4)), (4, .int r2), (0, .ref (evA (xV X) 3)), (1, .int v1), (2, .int v2), (3, .int v3)] (by rw [hn]; decide) rfl ?_
      refine so_iload (pc := 95) hX dX6_readPart_95 1 rfl ?_
      refine so_if_eq (pc := 97) hX 117 dX6_readPart_97 (by decide) (fun hz => absurd hz hc5) (fun _ => ?_)
      refine so_iload (pc := 100) hX dX6_readPart_100 0 rfl ?_
      refine so_if_ne (pc := 102) hX 117 dX6_readPart_102 (by decide) (fun hz => absurd hz (by decide)) (fun _ => ?_)
      refine so_aload_n (pc := 105) hX dX6_readPart_105 4 rfl ?_
      refine so_iload_n (pc := 106) hX dX6_readPart_106 5 rfl ?_
      refine so_iload_n (pc := 107) hX dX6_readPart_107 6 rfl ?_
      refine so_iload (pc := 108) hX dX6_readPart_108 3 rfl ?_
      refine so_bipush (v := (48 : Int32)) (pc := 110) hX dX6_readPart_110 (by decide) ?_
      refine so_isub (pc := 112) hX dX6_readPart_112 ?_
      obtain ⟨r84, μ83, hr, h⟩ := obd h
      refine so_callV (As := [.int v1, .int v2, .int (r2 - (48 : Int32))]) (rest := []) (pc := 113) hX dX6_readPart_113 (c_X6_drawPiece hL hr) mw_X6_drawPiece mv_X6_drawPiece ml_X6_64 (ekC hL rfl) (by decide) rfl rfl rfl rfl (by omega) (by decide) (Nat.le_of_ble_eq_true rfl) ?_
      exact so_zretH (pc := 116) hX hR h dX6_readPart_116
    · have h := iq hc82 h
      refine so_aload_n (pc := 79) hX dX6_readPart_79 3 rfl ?_
      obtain ⟨r86, μ85, hr, h⟩ := obd h
      refine so_callV (As := []) (rest := []) (pc := 80) hX dX6_readPart_80 (c_X6_nextByte hL hr) mw_X6_nextByte mv_X6_nextByte ml_X6_39 (ekC hL rfl) (by decide) rfl rfl rfl rfl (by omega) (by decide) (Nat.le_of_ble_eq_true rfl) ?_
      refine so_bipush (v := (120 : Int32)) (pc := 83) hX dX6_readPart_83 (by decide) ?_
      refine so_icmp_ne (pc := 85) hX 92 dX6_readPart_85 (by decide) (fun hc87 => ?_) (fun hc87 => ?_)
      · have h := iq hc87 h
        refine so_iconst (v := (0 : Int32)) (pc := 92) hX dX6_readPart_92 (by decide) ?_
        refine so_istore (pc := 93) hX dX6_readPart_93 [(7, .int (0 : Int32)), (6, .int r4), (5, .int (μ1.1 3 4)), (4, .int r2), (0, .ref (evA (xV X) 3)), (1, .int v1), (2, .int v2), (3, .int v3)] (by rw [hn]; decide) rfl ?_
        refine so_iload (pc := 95) hX dX6_readPart_95 1 rfl ?_
        refine so_if_eq (pc := 97) hX 117 dX6_readPart_97 (by decide) (fun hz => absurd hz hc5) (fun _ => ?_)
        refine so_iload (pc := 100) hX dX6_readPart_100 0 rfl ?_
        refine so_if_ne (pc := 102) hX 117 dX6_readPart_102 (by decide) (fun hz => absurd hz (by decide)) (fun _ => ?_)
        refine so_aload_n (pc := 105) hX dX6_readPart_105 4 rfl ?_
        refine so_iload_n (pc := 106) hX dX6_readPart_106 5 rfl ?_
        refine so_iload_n (pc := 107) hX dX6_readPart_107 6 rfl ?_
        refine so_iload (pc := 108) hX dX6_readPart_108 3 rfl ?_
        refine so_bipush (v := (48 : Int32)) (pc := 110) hX dX6_readPart_110 (by decide) ?_
        refine so_isub (pc := 112) hX dX6_readPart_112 ?_
        obtain ⟨r94, μ93, hr, h⟩ := obd h
        refine so_callV (As := [.int v1, .int v2, .int (r2 - (48 : Int32))]) (rest := []) (pc := 113) hX dX6_readPart_113 (c_X6_drawPiece hL hr) mw_X6_drawPiece mv_X6_drawPiece ml_X6_64 (ekC hL rfl) (by decide) rfl rfl rfl rfl (by omega) (by decide) (Nat.le_of_ble_eq_true rfl) ?_
        exact so_zretH (pc := 116) hX hR h dX6_readPart_116
      · have h := ip hc87 h
        refine so_iconst (v := (1 : Int32)) (pc := 88) hX dX6_readPart_88 (by decide) ?_
        refine so_goto (pc := 89) hX 93 dX6_readPart_89 (by decide) ?_
        refine so_istore (pc := 93) hX dX6_readPart_93 [(7, .int (1 : Int32)), (6, .int r4), (5, .int (μ1.1 3 4)), (4, .int r2), (0, .ref (evA (xV X) 3)), (1, .int v1), (2, .int v2), (3, .int v3)] (by rw [hn]; decide) rfl ?_
        refine so_iload (pc := 95) hX dX6_readPart_95 1 rfl ?_
        refine so_if_eq (pc := 97) hX 117 dX6_readPart_97 (by decide) (fun hz => absurd hz hc5) (fun _ => ?_)
        refine so_iload (pc := 100) hX dX6_readPart_100 0 rfl ?_
        refine so_if_ne (pc := 102) hX 117 dX6_readPart_102 (by decide) (fun _ => ?_) (fun hz => absurd hz (by decide))
        refine so_iload_n (pc := 117) hX dX6_readPart_117 7 rfl ?_
        refine so_bipush (v := (6 : Int32)) (pc := 118) hX dX6_readPart_118 (by decide) ?_
        refine so_icmp_lt (pc := 120) hX 131 dX6_readPart_120 (by decide) (fun hc88 => ?_) (fun hc88 => ?_)
        · have h := ip hc88 h
          refine so_iload (pc := 131) hX dX6_readPart_131 0 rfl ?_
          refine so_if_eq (pc := 133) hX 151 dX6_readPart_133 (by decide) (fun hz => absurd hz (by decide)) (fun _ => ?_)
          refine so_aload_n (pc := 136) hX dX6_readPart_136 4 rfl ?_
          refine so_iload_n (pc := 137) hX dX6_readPart_137 5 rfl ?_
          refine so_iload_n (pc := 138) hX dX6_readPart_138 6 rfl ?_
          refine so_iload_n (pc := 139) hX dX6_readPart_139 7 rfl ?_
          refine so_iconst (v := (1 : Int32)) (pc := 140) hX dX6_readPart_140 (by decide) ?_
          refine so_iadd (pc := 141) hX dX6_readPart_141 ?_
          refine so_iload (pc := 142) hX dX6_readPart_142 3 rfl ?_
          refine so_bipush (v := (48 : Int32)) (pc := 144) hX dX6_readPart_144 (by decide) ?_
          refine so_isub (pc := 146) hX dX6_readPart_146 ?_
          obtain ⟨r90, μ89, hr, h⟩ := obd h
          refine so_callV (As := [.int v1, .int v2, .int (v3 + (1 : Int32)), .int (r2 - (48 : Int32))]) (rest := []) (pc := 147) hX dX6_readPart_147 (hrec_readRepeated _ _ _ _ _ _ _ hr) mw_X6_readRepeated mv_X6_readRepeated ml_X6_67 (ekC hL rfl) (by decide) rfl rfl rfl rfl (Nat.le_refl _) (by decide) (Nat.le_of_ble_eq_true rfl) ?_
          exact so_zretH (pc := 150) hX hR h dX6_readPart_150
        · have h := iq hc88 h
          refine so_aload_n (pc := 123) hX dX6_readPart_123 4 rfl ?_
          refine so_iconst (v := (1 : Int32)) (pc := 124) hX dX6_readPart_124 (by decide) ?_
          refine so_iload (pc := 125) hX dX6_readPart_125 2 rfl ?_
          obtain ⟨r92, μ91, hr, h⟩ := obd h
          refine so_callV (As := [.int (1 : Int32), .int (μ1.1 3 4)]) (rest := []) (pc := 127) hX dX6_readPart_127 (c_X6_refuse hL hr) mw_X6_refuse mv_X6_refuse ml_X6_43 (ekC hL rfl) (by decide) rfl rfl rfl rfl (by omega) (by decide) (Nat.le_of_ble_eq_true rfl) ?_
          exact so_zretH (pc := 130) hX hR h dX6_readPart_130
  · have h := ip hc5 h
    refine so_iload (pc := 28) hX dX6_readPart_28 2 rfl ?_
    refine so_bipush (v := (40 : Int32)) (pc := 30) hX dX6_readPart_30 (by decide) ?_
    refine so_icmp_eq (pc := 32) hX 57 dX6_readPart_32 (by decide) (fun hc6 => ?_) (fun hc6 => ?_)
    · have h := ip hc6 h
      refine so_aload_n (pc := 57) hX dX6_readPart_57 3 rfl ?_
      refine so_dup (pc := 58) hX dX6_readPart_58 rfl ?_
      refine so_gI (pc := 59) hX dX6_readPart_59 fl_X6_29 (ekC hL rfl) ?_
      refine so_iconst (v := (1 : Int32)) (pc := 62) hX dX6_readPart_62 (by decide) ?_
      refine so_iadd (pc := 63) hX dX6_readPart_63 ?_
      refine so_pI (pc := 64) hX dX6_readPart_64 fl_X6_29 fw_6_4 (ekC hL rfl) rfl rfl ?_
      refine so_iload (pc := 67) hX dX6_readPart_67 2 rfl ?_
      refine so_bipush (v := (50 : Int32)) (pc := 69) hX dX6_readPart_69 (by decide) ?_
      refine so_bipush (v := (57 : Int32)) (pc := 71) hX dX6_readPart_71 (by decide) ?_
      obtain ⟨r8, μ7, hr, h⟩ := obd h
      refine so_callSN (As := [.int r2, .int (50 : Int32), .int (57 : Int32)]) (rest := []) (pc := 73) hX dX6_readPart_73 (c_X9_isFrom hL hr) mw_X9_isFrom ms_X9_isFrom ml_X6_61 rfl rfl (by omega) (by decide) (Nat.le_of_ble_eq_true rfl) ?_
      refine so_if_eq (pc := 76) hX 92 dX6_readPart_76 (by decide) (fun hc9 => ?_) (fun hc9 => ?_)
      · have h := ip hc9 h
        refine so_iconst (v := (0 : Int32)) (pc := 92) hX dX6_readPart_92 (by decide) ?_
        refine so_istore (pc := 93) hX dX6_readPart_93 [(7, .int (0 : Int32)), (6, .int r4), (5, .int (μ1.1 3 4)), (4, .int r2), (0, .ref (evA (xV X) 3)), (1, .int v1), (2, .int v2), (3, .int v3)] (by rw [hn]; decide) rfl ?_
        refine so_iload (pc := 95) hX dX6_readPart_95 1 rfl ?_
        refine so_if_eq (pc := 97) hX 117 dX6_readPart_97 (by decide) (fun _ => ?_) (fun hz => absurd hc5 hz)
        refine so_iload_n (pc := 117) hX dX6_readPart_117 7 rfl ?_
        refine so_bipush (v := (6 : Int32)) (pc := 118) hX dX6_readPart_118 (by decide) ?_
        refine so_icmp_lt (pc := 120) hX 131 dX6_readPart_120 (by decide) (fun hc10 => ?_) (fun hc10 => ?_)
        · have h := ip hc10 h
          refine so_iload (pc := 131) hX dX6_readPart_131 0 rfl ?_
          refine so_if_eq (pc := 133) hX 151 dX6_readPart_133 (by decide) (fun _ => ?_) (fun hz => absurd hz (by decide))
          refine so_iload (pc := 151) hX dX6_readPart_151 3 rfl ?_
          refine so_bipush (v := (40 : Int32)) (pc := 153) hX dX6_readPart_153 (by decide) ?_
          refine so_icmp_ne (pc := 155) hX 170 dX6_readPart_155 (by decide) (fun hz => absurd hc6 hz) (fun _ => ?_)
          refine so_aload_n (pc := 158) hX dX6_readPart_158 4 rfl ?_
          refine so_iload_n (pc := 159) hX dX6_readPart_159 5 rfl ?_
          refine so_iload_n (pc := 160) hX dX6_readPart_160 6 rfl ?_
          refine so_iload_n (pc := 161) hX dX6_readPart_161 7 rfl ?_
          refine so_iconst (v := (1 : Int32)) (pc := 162) hX dX6_readPart_162 (by decide) ?_
          refine so_iadd (pc := 163) hX dX6_readPart_163 ?_
          obtain ⟨r12, μ11, hr, h⟩ := obd h
          refine so_callV (As := [.int v1, .int v2, .int (v3 + (1 : Int32))]) (rest := []) (pc := 164) hX dX6_readPart_164 (hrec_readBracket _ _ _ _ _ _ hr) mw_X6_readBracket mv_X6_readBracket ml_X6_71 (ekC hL rfl) (by decide) rfl rfl rfl rfl (Nat.le_refl _) (by decide) (Nat.le_of_ble_eq_true rfl) ?_
          refine so_goto (pc := 167) hX 191 dX6_readPart_167 (by decide) ?_
          exact so_zretH (pc := 191) hX hR h dX6_readPart_191
        · have h := iq hc10 h
          refine so_aload_n (pc := 123) hX dX6_readPart_123 4 rfl ?_
          refine so_iconst (v := (1 : Int32)) (pc := 124) hX dX6_readPart_124 (by decide) ?_
          refine so_iload (pc := 125) hX dX6_readPart_125 2 rfl ?_
          obtain ⟨r14, μ13, hr, h⟩ := obd h
          refine so_callV (As := [.int (1 : Int32), .int (μ1.1 3 4)]) (rest := []) (pc := 127) hX dX6_readPart_127 (c_X6_refuse hL hr) mw_X6_refuse mv_X6_refuse ml_X6_43 (ekC hL rfl) (by decide) rfl rfl rfl rfl (by omega) (by decide) (Nat.le_of_ble_eq_true rfl) ?_
          exact so_zretH (pc := 130) hX hR h dX6_readPart_130
      · have h := iq hc9 h
        refine so_aload_n (pc := 79) hX dX6_readPart_79 3 rfl ?_
        obtain ⟨r16, μ15, hr, h⟩ := obd h
        refine so_callV (As := []) (rest := []) (pc := 80) hX dX6_readPart_80 (c_X6_nextByte hL hr) mw_X6_nextByte mv_X6_nextByte ml_X6_39 (ekC hL rfl) (by decide) rfl rfl rfl rfl (by omega) (by decide) (Nat.le_of_ble_eq_true rfl) ?_
        refine so_bipush (v := (120 : Int32)) (pc := 83) hX dX6_readPart_83 (by decide) ?_
        refine so_icmp_ne (pc := 85) hX 92 dX6_readPart_85 (by decide) (fun hc17 => ?_) (fun hc17 => ?_)
        · have h := iq hc17 h
          refine so_iconst (v := (0 : Int32)) (pc := 92) hX dX6_readPart_92 (by decide) ?_
          refine so_istore (pc := 93) hX dX6_readPart_93 [(7, .int (0 : Int32)), (6, .int r4), (5, .int (μ1.1 3 4)), (4, .int r2), (0, .ref (evA (xV X) 3)), (1, .int v1), (2, .int v2), (3, .int v3)] (by rw [hn]; decide) rfl ?_
          refine so_iload (pc := 95) hX dX6_readPart_95 1 rfl ?_
          refine so_if_eq (pc := 97) hX 117 dX6_readPart_97 (by decide) (fun _ => ?_) (fun hz => absurd hc5 hz)
          refine so_iload_n (pc := 117) hX dX6_readPart_117 7 rfl ?_
          refine so_bipush (v := (6 : Int32)) (pc := 118) hX dX6_readPart_118 (by decide) ?_
          refine so_icmp_lt (pc := 120) hX 131 dX6_readPart_120 (by decide) (fun hc23 => ?_) (fun hc23 => ?_)
          · have h := ip hc23 h
            refine so_iload (pc := 131) hX dX6_readPart_131 0 rfl ?_
            refine so_if_eq (pc := 133) hX 151 dX6_readPart_133 (by decide) (fun _ => ?_) (fun hz => absurd hz (by decide))
            refine so_iload (pc := 151) hX dX6_readPart_151 3 rfl ?_
            refine so_bipush (v := (40 : Int32)) (pc := 153) hX dX6_readPart_153 (by decide) ?_
            refine so_icmp_ne (pc := 155) hX 170 dX6_readPart_155 (by decide) (fun hz => absurd hc6 hz) (fun _ => ?_)
            refine so_aload_n (pc := 158) hX dX6_readPart_158 4 rfl ?_
            refine so_iload_n (pc := 159) hX dX6_readPart_159 5 rfl ?_
            refine so_iload_n (pc := 160) hX dX6_readPart_160 6 rfl ?_
            refine so_iload_n (pc := 161) hX dX6_readPart_161 7 rfl ?_
            refine so_iconst (v := (1 : Int32)) (pc := 162) hX dX6_readPart_162 (by decide) ?_
            refine so_iadd (pc := 163) hX dX6_readPart_163 ?_
            obtain ⟨r25, μ24, hr, h⟩ := obd h
            refine so_callV (As := [.int v1, .int v2, .int (v3 + (1 : Int32))]) (rest := []) (pc := 164) hX dX6_readPart_164 (hrec_readBracket _ _ _ _ _ _ hr) mw_X6_readBracket mv_X6_readBracket ml_X6_71 (ekC hL rfl) (by decide) rfl rfl rfl rfl (Nat.le_refl _) (by decide) (Nat.le_of_ble_eq_true rfl) ?_
            refine so_goto (pc := 167) hX 191 dX6_readPart_167 (by decide) ?_
            exact so_zretH (pc := 191) hX hR h dX6_readPart_191
          · have h := iq hc23 h
            refine so_aload_n (pc := 123) hX dX6_readPart_123 4 rfl ?_
            refine so_iconst (v := (1 : Int32)) (pc := 124) hX dX6_readPart_124 (by decide) ?_
            refine so_iload (pc := 125) hX dX6_readPart_125 2 rfl ?_
            obtain ⟨r27, μ26, hr, h⟩ := obd h
            refine so_callV (As := [.int (1 : Int32), .int (μ1.1 3 4)]) (rest := []) (pc := 127) hX dX6_readPart_127 (c_X6_refuse hL hr) mw_X6_refuse mv_X6_refuse ml_X6_43 (ekC hL rfl) (by decide) rfl rfl rfl rfl (by omega) (by decide) (Nat.le_of_ble_eq_true rfl) ?_
            exact so_zretH (pc := 130) hX hR h dX6_readPart_130
        · have h := ip hc17 h
          refine so_iconst (v := (1 : Int32)) (pc := 88) hX dX6_readPart_88 (by decide) ?_
          refine so_goto (pc := 89) hX 93 dX6_readPart_89 (by decide) ?_
          refine so_istore (pc := 93) hX dX6_readPart_93 [(7, .int (1 : Int32)), (6, .int r4), (5, .int (μ1.1 3 4)), (4, .int r2), (0, .ref (evA (xV X) 3)), (1, .int v1), (2, .int v2), (3, .int v3)] (by rw [hn]; decide) rfl ?_
          refine so_iload (pc := 95) hX dX6_readPart_95 1 rfl ?_
          refine so_if_eq (pc := 97) hX 117 dX6_readPart_97 (by decide) (fun _ => ?_) (fun hz => absurd hc5 hz)
          refine so_iload_n (pc := 117) hX dX6_readPart_117 7 rfl ?_
          refine so_bipush (v := (6 : Int32)) (pc := 118) hX dX6_readPart_118 (by decide) ?_
          refine so_icmp_lt (pc := 120) hX 131 dX6_readPart_120 (by decide) (fun hc18 => ?_) (fun hc18 => ?_)
          · have h := ip hc18 h
            refine so_iload (pc := 131) hX dX6_readPart_131 0 rfl ?_
            refine so_if_eq (pc := 133) hX 151 dX6_readPart_133 (by decide) (fun hz => absurd hz (by decide)) (fun _ => ?_)
            refine so_aload_n (pc := 136) hX dX6_readPart_136 4 rfl ?_
            refine so_iload_n (pc := 137) hX dX6_readPart_137 5 rfl ?_
            refine so_iload_n (pc := 138) hX dX6_readPart_138 6 rfl ?_
            refine so_iload_n (pc := 139) hX dX6_readPart_139 7 rfl ?_
            refine so_iconst (v := (1 : Int32)) (pc := 140) hX dX6_readPart_140 (by decide) ?_
            refine so_iadd (pc := 141) hX dX6_readPart_141 ?_
            refine so_iload (pc := 142) hX dX6_readPart_142 3 rfl ?_
            refine so_bipush (v := (48 : Int32)) (pc := 144) hX dX6_readPart_144 (by decide) ?_
            refine so_isub (pc := 146) hX dX6_readPart_146 ?_
            obtain ⟨r20, μ19, hr, h⟩ := obd h
            refine so_callV (As := [.int v1, .int v2, .int (v3 + (1 : Int32)), .int (r2 - (48 : Int32))]) (rest := []) (pc := 147) hX dX6_readPart_147 (hrec_readRepeated _ _ _ _ _ _ _ hr) mw_X6_readRepeated mv_X6_readRepeated ml_X6_67 (ekC hL rfl) (by decide) rfl rfl rfl rfl (Nat.le_refl _) (by decide) (Nat.le_of_ble_eq_true rfl) ?_
            exact so_zretH (pc := 150) hX hR h dX6_readPart_150
          · have h := iq hc18 h
            refine so_aload_n (pc := 123) hX dX6_readPart_123 4 rfl ?_
            refine so_iconst (v := (1 : Int32)) (pc := 124) hX dX6_readPart_124 (by decide) ?_
            refine so_iload (pc := 125) hX dX6_readPart_125 2 rfl ?_
            obtain ⟨r22, μ21, hr, h⟩ := obd h
            refine so_callV (As := [.int (1 : Int32), .int (μ1.1 3 4)]) (rest := []) (pc := 127) hX dX6_readPart_127 (c_X6_refuse hL hr) mw_X6_refuse mv_X6_refuse ml_X6_43 (ekC hL rfl) (by decide) rfl rfl rfl rfl (by omega) (by decide) (Nat.le_of_ble_eq_true rfl) ?_
            exact so_zretH (pc := 130) hX hR h dX6_readPart_130
    · have h := iq hc6 h
      refine so_iload (pc := 35) hX dX6_readPart_35 2 rfl ?_
      refine so_bipush (v := (33 : Int32)) (pc := 37) hX dX6_readPart_37 (by decide) ?_
      refine so_icmp_eq (pc := 39) hX 57 dX6_readPart_39 (by decide) (fun hc28 => ?_) (fun hc28 => ?_)
      · have h := ip hc28 h
        refine so_aload_n (pc := 57) hX dX6_readPart_57 3 rfl ?_
        refine so_dup (pc := 58) hX dX6_readPart_58 rfl ?_
        refine so_gI (pc := 59) hX dX6_readPart_59 fl_X6_29 (ekC hL rfl) ?_
        refine so_iconst (v := (1 : Int32)) (pc := 62) hX dX6_readPart_62 (by decide) ?_
        refine so_iadd (pc := 63) hX dX6_readPart_63 ?_
        refine so_pI (pc := 64) hX dX6_readPart_64 fl_X6_29 fw_6_4 (ekC hL rfl) rfl rfl ?_
        refine so_iload (pc := 67) hX dX6_readPart_67 2 rfl ?_
        refine so_bipush (v := (50 : Int32)) (pc := 69) hX dX6_readPart_69 (by decide) ?_
        refine so_bipush (v := (57 : Int32)) (pc := 71) hX dX6_readPart_71 (by decide) ?_
        obtain ⟨r30, μ29, hr, h⟩ := obd h
        refine so_callSN (As := [.int r2, .int (50 : Int32), .int (57 : Int32)]) (rest := []) (pc := 73) hX dX6_readPart_73 (c_X9_isFrom hL hr) mw_X9_isFrom ms_X9_isFrom ml_X6_61 rfl rfl (by omega) (by decide) (Nat.le_of_ble_eq_true rfl) ?_
        refine so_if_eq (pc := 76) hX 92 dX6_readPart_76 (by decide) (fun hc31 => ?_) (fun hc31 => ?_)
        · have h := ip hc31 h
          refine so_iconst (v := (0 : Int32)) (pc := 92) hX dX6_readPart_92 (by decide) ?_
          refine so_istore (pc := 93) hX dX6_readPart_93 [(7, .int (0 : Int32)), (6, .int r4), (5, .int (μ1.1 3 4)), (4, .int r2), (0, .ref (evA (xV X) 3)), (1, .int v1), (2, .int v2), (3, .int v3)] (by rw [hn]; decide) rfl ?_
          refine so_iload (pc := 95) hX dX6_readPart_95 1 rfl ?_
          refine so_if_eq (pc := 97) hX 117 dX6_readPart_97 (by decide) (fun _ => ?_) (fun hz => absurd hc5 hz)
          refine so_iload_n (pc := 117) hX dX6_readPart_117 7 rfl ?_
          refine so_bipush (v := (6 : Int32)) (pc := 118) hX dX6_readPart_118 (by decide) ?_
          refine so_icmp_lt (pc := 120) hX 131 dX6_readPart_120 (by decide) (fun hc32 => ?_) (fun hc32 => ?_)
          · have h := ip hc32 h
            refine so_iload (pc := 131) hX dX6_readPart_131 0 rfl ?_
            refine so_if_eq (pc := 133) hX 151 dX6_readPart_133 (by decide) (fun _ => ?_) (fun hz => absurd hz (by decide))
            refine so_iload (pc := 151) hX dX6_readPart_151 3 rfl ?_
            refine so_bipush (v := (40 : Int32)) (pc := 153) hX dX6_readPart_153 (by decide) ?_
            refine so_icmp_ne (pc := 155) hX 170 dX6_readPart_155 (by decide) (fun _ => ?_) (fun hz => absurd hz hc6)
            refine so_aload_n (pc := 170) hX dX6_readPart_170 4 rfl ?_
            refine so_iload_n (pc := 171) hX dX6_readPart_171 5 rfl ?_
            refine so_iload_n (pc := 172) hX dX6_readPart_172 6 rfl ?_
            refine so_iload_n (pc := 173) hX dX6_readPart_173 7 rfl ?_
            refine so_iconst (v := (1 : Int32)) (pc := 174) hX dX6_readPart_174 (by decide) ?_
            refine so_iadd (pc := 175) hX dX6_readPart_175 ?_
            refine so_iload (pc := 176) hX dX6_readPart_176 3 rfl ?_
            refine so_bipush (v := (126 : Int32)) (pc := 178) hX dX6_readPart_178 (by decide) ?_
            refine so_icmp_ne (pc := 180) hX 187 dX6_readPart_180 (by decide) (fun hc33 => ?_) (fun hc33 => ?_)
            · have h := iq hc33 h
              refine so_iconst (v := (0 : Int32)) (pc := 187) hX dX6_readPart_187 (by decide) ?_
              obtain ⟨r37, μ36, hr, h⟩ := obd h
              refine so_callV (As := [.int v1, .int v2, .int (v3 + (1 : Int32)), .int (0 : Int32)]) (rest := []) (pc := 188) hX dX6_readPart_188 (hrec_readChanged _ _ _ _ _ _ _ hr) mw_X6_readChanged mv_X6_readChanged ml_X6_74 (ekC hL rfl) (by decide) rfl rfl rfl rfl (Nat.le_refl _) (by decide) (Nat.le_of_ble_eq_true rfl) ?_
              exact so_zretH (pc := 191) hX hR h dX6_readPart_191
            · have h := ip hc33 h
              refine so_iconst (v := (1 : Int32)) (pc := 183) hX dX6_readPart_183 (by decide) ?_
              refine so_goto (pc := 184) hX 188 dX6_readPart_184 (by decide) ?_
              obtain ⟨r35, μ34, hr, h⟩ := obd h
              refine so_callV (As := [.int v1, .int v2, .int (v3 + (1 : Int32)), .int (1 : Int32)]) (rest := []) (pc := 188) hX dX6_readPart_188 (hrec_readChanged _ _ _ _ _ _ _ hr) mw_X6_readChanged mv_X6_readChanged ml_X6_74 (ekC hL rfl) (by decide) rfl rfl rfl rfl (Nat.le_refl _) (by decide) (Nat.le_of_ble_eq_true rfl) ?_
              exact so_zretH (pc := 191) hX hR h dX6_readPart_191
          · have h := iq hc32 h
            refine so_aload_n (pc := 123) hX dX6_readPart_123 4 rfl ?_
            refine so_iconst (v := (1 : Int32)) (pc := 124) hX dX6_readPart_124 (by decide) ?_
            refine so_iload (pc := 125) hX dX6_readPart_125 2 rfl ?_
            obtain ⟨r39, μ38, hr, h⟩ := obd h
            refine so_callV (As := [.int (1 : Int32), .int (μ1.1 3 4)]) (rest := []) (pc := 127) hX dX6_readPart_127 (c_X6_refuse hL hr) mw_X6_refuse mv_X6_refuse ml_X6_43 (ekC hL rfl) (by decide) rfl rfl rfl rfl (by omega) (by decide) (Nat.le_of_ble_eq_true rfl) ?_
            exact so_zretH (pc := 130) hX hR h dX6_readPart_130
        · have h := iq hc31 h
          refine so_aload_n (pc := 79) hX dX6_readPart_79 3 rfl ?_
          obtain ⟨r41, μ40, hr, h⟩ := obd h
          refine so_callV (As := []) (rest := []) (pc := 80) hX dX6_readPart_80 (c_X6_nextByte hL hr) mw_X6_nextByte mv_X6_nextByte ml_X6_39 (ekC hL rfl) (by decide) rfl rfl rfl rfl (by omega) (by decide) (Nat.le_of_ble_eq_true rfl) ?_
          refine so_bipush (v := (120 : Int32)) (pc := 83) hX dX6_readPart_83 (by decide) ?_
          refine so_icmp_ne (pc := 85) hX 92 dX6_readPart_85 (by decide) (fun hc42 => ?_) (fun hc42 => ?_)
          · have h := iq hc42 h
            refine so_iconst (v := (0 : Int32)) (pc := 92) hX dX6_readPart_92 (by decide) ?_
            refine so_istore (pc := 93) hX dX6_readPart_93 [(7, .int (0 : Int32)), (6, .int r4), (5, .int (μ1.1 3 4)), (4, .int r2), (0, .ref (evA (xV X) 3)), (1, .int v1), (2, .int v2), (3, .int v3)] (by rw [hn]; decide) rfl ?_
            refine so_iload (pc := 95) hX dX6_readPart_95 1 rfl ?_
            refine so_if_eq (pc := 97) hX 117 dX6_readPart_97 (by decide) (fun _ => ?_) (fun hz => absurd hc5 hz)
            refine so_iload_n (pc := 117) hX dX6_readPart_117 7 rfl ?_
            refine so_bipush (v := (6 : Int32)) (pc := 118) hX dX6_readPart_118 (by decide) ?_
            refine so_icmp_lt (pc := 120) hX 131 dX6_readPart_120 (by decide) (fun hc48 => ?_) (fun hc48 => ?_)
            · have h := ip hc48 h
              refine so_iload (pc := 131) hX dX6_readPart_131 0 rfl ?_
              refine so_if_eq (pc := 133) hX 151 dX6_readPart_133 (by decide) (fun _ => ?_) (fun hz => absurd hz (by decide))
              refine so_iload (pc := 151) hX dX6_readPart_151 3 rfl ?_
              refine so_bipush (v := (40 : Int32)) (pc := 153) hX dX6_readPart_153 (by decide) ?_
              refine so_icmp_ne (pc := 155) hX 170 dX6_readPart_155 (by decide) (fun _ => ?_) (fun hz => absurd hz hc6)
              refine so_aload_n (pc := 170) hX dX6_readPart_170 4 rfl ?_
              refine so_iload_n (pc := 171) hX dX6_readPart_171 5 rfl ?_
              refine so_iload_n (pc := 172) hX dX6_readPart_172 6 rfl ?_
              refine so_iload_n (pc := 173) hX dX6_readPart_173 7 rfl ?_
              refine so_iconst (v := (1 : Int32)) (pc := 174) hX dX6_readPart_174 (by decide) ?_
              refine so_iadd (pc := 175) hX dX6_readPart_175 ?_
              refine so_iload (pc := 176) hX dX6_readPart_176 3 rfl ?_
              refine so_bipush (v := (126 : Int32)) (pc := 178) hX dX6_readPart_178 (by decide) ?_
              refine so_icmp_ne (pc := 180) hX 187 dX6_readPart_180 (by decide) (fun hc49 => ?_) (fun hc49 => ?_)
              · have h := iq hc49 h
                refine so_iconst (v := (0 : Int32)) (pc := 187) hX dX6_readPart_187 (by decide) ?_
                obtain ⟨r53, μ52, hr, h⟩ := obd h
                refine so_callV (As := [.int v1, .int v2, .int (v3 + (1 : Int32)), .int (0 : Int32)]) (rest := []) (pc := 188) hX dX6_readPart_188 (hrec_readChanged _ _ _ _ _ _ _ hr) mw_X6_readChanged mv_X6_readChanged ml_X6_74 (ekC hL rfl) (by decide) rfl rfl rfl rfl (Nat.le_refl _) (by decide) (Nat.le_of_ble_eq_true rfl) ?_
                exact so_zretH (pc := 191) hX hR h dX6_readPart_191
              · have h := ip hc49 h
                refine so_iconst (v := (1 : Int32)) (pc := 183) hX dX6_readPart_183 (by decide) ?_
                refine so_goto (pc := 184) hX 188 dX6_readPart_184 (by decide) ?_
                obtain ⟨r51, μ50, hr, h⟩ := obd h
                refine so_callV (As := [.int v1, .int v2, .int (v3 + (1 : Int32)), .int (1 : Int32)]) (rest := []) (pc := 188) hX dX6_readPart_188 (hrec_readChanged _ _ _ _ _ _ _ hr) mw_X6_readChanged mv_X6_readChanged ml_X6_74 (ekC hL rfl) (by decide) rfl rfl rfl rfl (Nat.le_refl _) (by decide) (Nat.le_of_ble_eq_true rfl) ?_
                exact so_zretH (pc := 191) hX hR h dX6_readPart_191
            · have h := iq hc48 h
              refine so_aload_n (pc := 123) hX dX6_readPart_123 4 rfl ?_
              refine so_iconst (v := (1 : Int32)) (pc := 124) hX dX6_readPart_124 (by decide) ?_
              refine so_iload (pc := 125) hX dX6_readPart_125 2 rfl ?_
              obtain ⟨r55, μ54, hr, h⟩ := obd h
              refine so_callV (As := [.int (1 : Int32), .int (μ1.1 3 4)]) (rest := []) (pc := 127) hX dX6_readPart_127 (c_X6_refuse hL hr) mw_X6_refuse mv_X6_refuse ml_X6_43 (ekC hL rfl) (by decide) rfl rfl rfl rfl (by omega) (by decide) (Nat.le_of_ble_eq_true rfl) ?_
              exact so_zretH (pc := 130) hX hR h dX6_readPart_130
          · have h := ip hc42 h
            refine so_iconst (v := (1 : Int32)) (pc := 88) hX dX6_readPart_88 (by decide) ?_
            refine so_goto (pc := 89) hX 93 dX6_readPart_89 (by decide) ?_
            refine so_istore (pc := 93) hX dX6_readPart_93 [(7, .int (1 : Int32)), (6, .int r4), (5, .int (μ1.1 3 4)), (4, .int r2), (0, .ref (evA (xV X) 3)), (1, .int v1), (2, .int v2), (3, .int v3)] (by rw [hn]; decide) rfl ?_
            refine so_iload (pc := 95) hX dX6_readPart_95 1 rfl ?_
            refine so_if_eq (pc := 97) hX 117 dX6_readPart_97 (by decide) (fun _ => ?_) (fun hz => absurd hc5 hz)
            refine so_iload_n (pc := 117) hX dX6_readPart_117 7 rfl ?_
            refine so_bipush (v := (6 : Int32)) (pc := 118) hX dX6_readPart_118 (by decide) ?_
            refine so_icmp_lt (pc := 120) hX 131 dX6_readPart_120 (by decide) (fun hc43 => ?_) (fun hc43 => ?_)
            · have h := ip hc43 h
              refine so_iload (pc := 131) hX dX6_readPart_131 0 rfl ?_
              refine so_if_eq (pc := 133) hX 151 dX6_readPart_133 (by decide) (fun hz => absurd hz (by decide)) (fun _ => ?_)
              refine so_aload_n (pc := 136) hX dX6_readPart_136 4 rfl ?_
              refine so_iload_n (pc := 137) hX dX6_readPart_137 5 rfl ?_
              refine so_iload_n (pc := 138) hX dX6_readPart_138 6 rfl ?_
              refine so_iload_n (pc := 139) hX dX6_readPart_139 7 rfl ?_
              refine so_iconst (v := (1 : Int32)) (pc := 140) hX dX6_readPart_140 (by decide) ?_
              refine so_iadd (pc := 141) hX dX6_readPart_141 ?_
              refine so_iload (pc := 142) hX dX6_readPart_142 3 rfl ?_
              refine so_bipush (v := (48 : Int32)) (pc := 144) hX dX6_readPart_144 (by decide) ?_
              refine so_isub (pc := 146) hX dX6_readPart_146 ?_
              obtain ⟨r45, μ44, hr, h⟩ := obd h
              refine so_callV (As := [.int v1, .int v2, .int (v3 + (1 : Int32)), .int (r2 - (48 : Int32))]) (rest := []) (pc := 147) hX dX6_readPart_147 (hrec_readRepeated _ _ _ _ _ _ _ hr) mw_X6_readRepeated mv_X6_readRepeated ml_X6_67 (ekC hL rfl) (by decide) rfl rfl rfl rfl (Nat.le_refl _) (by decide) (Nat.le_of_ble_eq_true rfl) ?_
              exact so_zretH (pc := 150) hX hR h dX6_readPart_150
            · have h := iq hc43 h
              refine so_aload_n (pc := 123) hX dX6_readPart_123 4 rfl ?_
              refine so_iconst (v := (1 : Int32)) (pc := 124) hX dX6_readPart_124 (by decide) ?_
              refine so_iload (pc := 125) hX dX6_readPart_125 2 rfl ?_
              obtain ⟨r47, μ46, hr, h⟩ := obd h
              refine so_callV (As := [.int (1 : Int32), .int (μ1.1 3 4)]) (rest := []) (pc := 127) hX dX6_readPart_127 (c_X6_refuse hL hr) mw_X6_refuse mv_X6_refuse ml_X6_43 (ekC hL rfl) (by decide) rfl rfl rfl rfl (by omega) (by decide) (Nat.le_of_ble_eq_true rfl) ?_
              exact so_zretH (pc := 130) hX hR h dX6_readPart_130
      · have h := iq hc28 h
        refine so_iload (pc := 42) hX dX6_readPart_42 2 rfl ?_
        refine so_bipush (v := (126 : Int32)) (pc := 44) hX dX6_readPart_44 (by decide) ?_
        refine so_icmp_eq (pc := 46) hX 57 dX6_readPart_46 (by decide) (fun hc56 => ?_) (fun hc56 => ?_)
        · have h := ip hc56 h
          refine so_aload_n (pc := 57) hX dX6_readPart_57 3 rfl ?_
          refine so_dup (pc := 58) hX dX6_readPart_58 rfl ?_
          refine so_gI (pc := 59) hX dX6_readPart_59 fl_X6_29 (ekC hL rfl) ?_
          refine so_iconst (v := (1 : Int32)) (pc := 62) hX dX6_readPart_62 (by decide) ?_
          refine so_iadd (pc := 63) hX dX6_readPart_63 ?_
          refine so_pI (pc := 64) hX dX6_readPart_64 fl_X6_29 fw_6_4 (ekC hL rfl) rfl rfl ?_
          refine so_iload (pc := 67) hX dX6_readPart_67 2 rfl ?_
          refine so_bipush (v := (50 : Int32)) (pc := 69) hX dX6_readPart_69 (by decide) ?_
          refine so_bipush (v := (57 : Int32)) (pc := 71) hX dX6_readPart_71 (by decide) ?_
          obtain ⟨r58, μ57, hr, h⟩ := obd h
          refine so_callSN (As := [.int r2, .int (50 : Int32), .int (57 : Int32)]) (rest := []) (pc := 73) hX dX6_readPart_73 (c_X9_isFrom hL hr) mw_X9_isFrom ms_X9_isFrom ml_X6_61 rfl rfl (by omega) (by decide) (Nat.le_of_ble_eq_true rfl) ?_
          refine so_if_eq (pc := 76) hX 92 dX6_readPart_76 (by decide) (fun hc59 => ?_) (fun hc59 => ?_)
          · have h := ip hc59 h
            refine so_iconst (v := (0 : Int32)) (pc := 92) hX dX6_readPart_92 (by decide) ?_
            refine so_istore (pc := 93) hX dX6_readPart_93 [(7, .int (0 : Int32)), (6, .int r4), (5, .int (μ1.1 3 4)), (4, .int r2), (0, .ref (evA (xV X) 3)), (1, .int v1), (2, .int v2), (3, .int v3)] (by rw [hn]; decide) rfl ?_
            refine so_iload (pc := 95) hX dX6_readPart_95 1 rfl ?_
            refine so_if_eq (pc := 97) hX 117 dX6_readPart_97 (by decide) (fun _ => ?_) (fun hz => absurd hc5 hz)
            refine so_iload_n (pc := 117) hX dX6_readPart_117 7 rfl ?_
            refine so_bipush (v := (6 : Int32)) (pc := 118) hX dX6_readPart_118 (by decide) ?_
            refine so_icmp_lt (pc := 120) hX 131 dX6_readPart_120 (by decide) (fun hc60 => ?_) (fun hc60 => ?_)
            · have h := ip hc60 h
              refine so_iload (pc := 131) hX dX6_readPart_131 0 rfl ?_
              refine so_if_eq (pc := 133) hX 151 dX6_readPart_133 (by decide) (fun _ => ?_) (fun hz => absurd hz (by decide))
              refine so_iload (pc := 151) hX dX6_readPart_151 3 rfl ?_
              refine so_bipush (v := (40 : Int32)) (pc := 153) hX dX6_readPart_153 (by decide) ?_
              refine so_icmp_ne (pc := 155) hX 170 dX6_readPart_155 (by decide) (fun _ => ?_) (fun hz => absurd hz hc6)
              refine so_aload_n (pc := 170) hX dX6_readPart_170 4 rfl ?_
              refine so_iload_n (pc := 171) hX dX6_readPart_171 5 rfl ?_
              refine so_iload_n (pc := 172) hX dX6_readPart_172 6 rfl ?_
              refine so_iload_n (pc := 173) hX dX6_readPart_173 7 rfl ?_
              refine so_iconst (v := (1 : Int32)) (pc := 174) hX dX6_readPart_174 (by decide) ?_
              refine so_iadd (pc := 175) hX dX6_readPart_175 ?_
              refine so_iload (pc := 176) hX dX6_readPart_176 3 rfl ?_
              refine so_bipush (v := (126 : Int32)) (pc := 178) hX dX6_readPart_178 (by decide) ?_
              refine so_icmp_ne (pc := 180) hX 187 dX6_readPart_180 (by decide) (fun hz => absurd hc56 hz) (fun _ => ?_)
              refine so_iconst (v := (1 : Int32)) (pc := 183) hX dX6_readPart_183 (by decide) ?_
              refine so_goto (pc := 184) hX 188 dX6_readPart_184 (by decide) ?_
              obtain ⟨r62, μ61, hr, h⟩ := obd h
              refine so_callV (As := [.int v1, .int v2, .int (v3 + (1 : Int32)), .int (1 : Int32)]) (rest := []) (pc := 188) hX dX6_readPart_188 (hrec_readChanged _ _ _ _ _ _ _ hr) mw_X6_readChanged mv_X6_readChanged ml_X6_74 (ekC hL rfl) (by decide) rfl rfl rfl rfl (Nat.le_refl _) (by decide) (Nat.le_of_ble_eq_true rfl) ?_
              exact so_zretH (pc := 191) hX hR h dX6_readPart_191
            · have h := iq hc60 h
              refine so_aload_n (pc := 123) hX dX6_readPart_123 4 rfl ?_
              refine so_iconst (v := (1 : Int32)) (pc := 124) hX dX6_readPart_124 (by decide) ?_
              refine so_iload (pc := 125) hX dX6_readPart_125 2 rfl ?_
              obtain ⟨r64, μ63, hr, h⟩ := obd h
              refine so_callV (As := [.int (1 : Int32), .int (μ1.1 3 4)]) (rest := []) (pc := 127) hX dX6_readPart_127 (c_X6_refuse hL hr) mw_X6_refuse mv_X6_refuse ml_X6_43 (ekC hL rfl) (by decide) rfl rfl rfl rfl (by omega) (by decide) (Nat.le_of_ble_eq_true rfl) ?_
              exact so_zretH (pc := 130) hX hR h dX6_readPart_130
          · have h := iq hc59 h
            refine so_aload_n (pc := 79) hX dX6_readPart_79 3 rfl ?_
            obtain ⟨r66, μ65, hr, h⟩ := obd h
            refine so_callV (As := []) (rest := []) (pc := 80) hX dX6_readPart_80 (c_X6_nextByte hL hr) mw_X6_nextByte mv_X6_nextByte ml_X6_39 (ekC hL rfl) (by decide) rfl rfl rfl rfl (by omega) (by decide) (Nat.le_of_ble_eq_true rfl) ?_
            refine so_bipush (v := (120 : Int32)) (pc := 83) hX dX6_readPart_83 (by decide) ?_
            refine so_icmp_ne (pc := 85) hX 92 dX6_readPart_85 (by decide) (fun hc67 => ?_) (fun hc67 => ?_)
            · have h := iq hc67 h
              refine so_iconst (v := (0 : Int32)) (pc := 92) hX dX6_readPart_92 (by decide) ?_
              refine so_istore (pc := 93) hX dX6_readPart_93 [(7, .int (0 : Int32)), (6, .int r4), (5, .int (μ1.1 3 4)), (4, .int r2), (0, .ref (evA (xV X) 3)), (1, .int v1), (2, .int v2), (3, .int v3)] (by rw [hn]; decide) rfl ?_
              refine so_iload (pc := 95) hX dX6_readPart_95 1 rfl ?_
              refine so_if_eq (pc := 97) hX 117 dX6_readPart_97 (by decide) (fun _ => ?_) (fun hz => absurd hc5 hz)
              refine so_iload_n (pc := 117) hX dX6_readPart_117 7 rfl ?_
              refine so_bipush (v := (6 : Int32)) (pc := 118) hX dX6_readPart_118 (by decide) ?_
              refine so_icmp_lt (pc := 120) hX 131 dX6_readPart_120 (by decide) (fun hc73 => ?_) (fun hc73 => ?_)
              · have h := ip hc73 h
                refine so_iload (pc := 131) hX dX6_readPart_131 0 rfl ?_
                refine so_if_eq (pc := 133) hX 151 dX6_readPart_133 (by decide) (fun _ => ?_) (fun hz => absurd hz (by decide))
                refine so_iload (pc := 151) hX dX6_readPart_151 3 rfl ?_
                refine so_bipush (v := (40 : Int32)) (pc := 153) hX dX6_readPart_153 (by decide) ?_
                refine so_icmp_ne (pc := 155) hX 170 dX6_readPart_155 (by decide) (fun _ => ?_) (fun hz => absurd hz hc6)
                refine so_aload_n (pc := 170) hX dX6_readPart_170 4 rfl ?_
                refine so_iload_n (pc := 171) hX dX6_readPart_171 5 rfl ?_
                refine so_iload_n (pc := 172) hX dX6_readPart_172 6 rfl ?_
                refine so_iload_n (pc := 173) hX dX6_readPart_173 7 rfl ?_
                refine so_iconst (v := (1 : Int32)) (pc := 174) hX dX6_readPart_174 (by decide) ?_
                refine so_iadd (pc := 175) hX dX6_readPart_175 ?_
                refine so_iload (pc := 176) hX dX6_readPart_176 3 rfl ?_
                refine so_bipush (v := (126 : Int32)) (pc := 178) hX dX6_readPart_178 (by decide) ?_
                refine so_icmp_ne (pc := 180) hX 187 dX6_readPart_180 (by decide) (fun hz => absurd hc56 hz) (fun _ => ?_)
                refine so_iconst (v := (1 : Int32)) (pc := 183) hX dX6_readPart_183 (by decide) ?_
                refine so_goto (pc := 184) hX 188 dX6_readPart_184 (by decide) ?_
                obtain ⟨r75, μ74, hr, h⟩ := obd h
                refine so_callV (As := [.int v1, .int v2, .int (v3 + (1 : Int32)), .int (1 : Int32)]) (rest := []) (pc := 188) hX dX6_readPart_188 (hrec_readChanged _ _ _ _ _ _ _ hr) mw_X6_readChanged mv_X6_readChanged ml_X6_74 (ekC hL rfl) (by decide) rfl rfl rfl rfl (Nat.le_refl _) (by decide) (Nat.le_of_ble_eq_true rfl) ?_
                exact so_zretH (pc := 191) hX hR h dX6_readPart_191
              · have h := iq hc73 h
                refine so_aload_n (pc := 123) hX dX6_readPart_123 4 rfl ?_
                refine so_iconst (v := (1 : Int32)) (pc := 124) hX dX6_readPart_124 (by decide) ?_
                refine so_iload (pc := 125) hX dX6_readPart_125 2 rfl ?_
                obtain ⟨r77, μ76, hr, h⟩ := obd h
                refine so_callV (As := [.int (1 : Int32), .int (μ1.1 3 4)]) (rest := []) (pc := 127) hX dX6_readPart_127 (c_X6_refuse hL hr) mw_X6_refuse mv_X6_refuse ml_X6_43 (ekC hL rfl) (by decide) rfl rfl rfl rfl (by omega) (by decide) (Nat.le_of_ble_eq_true rfl) ?_
                exact so_zretH (pc := 130) hX hR h dX6_readPart_130
            · have h := ip hc67 h
              refine so_iconst (v := (1 : Int32)) (pc := 88) hX dX6_readPart_88 (by decide) ?_
              refine so_goto (pc := 89) hX 93 dX6_readPart_89 (by decide) ?_
              refine so_istore (pc := 93) hX dX6_readPart_93 [(7, .int (1 : Int32)), (6, .int r4), (5, .int (μ1.1 3 4)), (4, .int r2), (0, .ref (evA (xV X) 3)), (1, .int v1), (2, .int v2), (3, .int v3)] (by rw [hn]; decide) rfl ?_
              refine so_iload (pc := 95) hX dX6_readPart_95 1 rfl ?_
              refine so_if_eq (pc := 97) hX 117 dX6_readPart_97 (by decide) (fun _ => ?_) (fun hz => absurd hc5 hz)
              refine so_iload_n (pc := 117) hX dX6_readPart_117 7 rfl ?_
              refine so_bipush (v := (6 : Int32)) (pc := 118) hX dX6_readPart_118 (by decide) ?_
              refine so_icmp_lt (pc := 120) hX 131 dX6_readPart_120 (by decide) (fun hc68 => ?_) (fun hc68 => ?_)
              · have h := ip hc68 h
                refine so_iload (pc := 131) hX dX6_readPart_131 0 rfl ?_
                refine so_if_eq (pc := 133) hX 151 dX6_readPart_133 (by decide) (fun hz => absurd hz (by decide)) (fun _ => ?_)
                refine so_aload_n (pc := 136) hX dX6_readPart_136 4 rfl ?_
                refine so_iload_n (pc := 137) hX dX6_readPart_137 5 rfl ?_
                refine so_iload_n (pc := 138) hX dX6_readPart_138 6 rfl ?_
                refine so_iload_n (pc := 139) hX dX6_readPart_139 7 rfl ?_
                refine so_iconst (v := (1 : Int32)) (pc := 140) hX dX6_readPart_140 (by decide) ?_
                refine so_iadd (pc := 141) hX dX6_readPart_141 ?_
                refine so_iload (pc := 142) hX dX6_readPart_142 3 rfl ?_
                refine so_bipush (v := (48 : Int32)) (pc := 144) hX dX6_readPart_144 (by decide) ?_
                refine so_isub (pc := 146) hX dX6_readPart_146 ?_
                obtain ⟨r70, μ69, hr, h⟩ := obd h
                refine so_callV (As := [.int v1, .int v2, .int (v3 + (1 : Int32)), .int (r2 - (48 : Int32))]) (rest := []) (pc := 147) hX dX6_readPart_147 (hrec_readRepeated _ _ _ _ _ _ _ hr) mw_X6_readRepeated mv_X6_readRepeated ml_X6_67 (ekC hL rfl) (by decide) rfl rfl rfl rfl (Nat.le_refl _) (by decide) (Nat.le_of_ble_eq_true rfl) ?_
                exact so_zretH (pc := 150) hX hR h dX6_readPart_150
              · have h := iq hc68 h
                refine so_aload_n (pc := 123) hX dX6_readPart_123 4 rfl ?_
                refine so_iconst (v := (1 : Int32)) (pc := 124) hX dX6_readPart_124 (by decide) ?_
                refine so_iload (pc := 125) hX dX6_readPart_125 2 rfl ?_
                obtain ⟨r72, μ71, hr, h⟩ := obd h
                refine so_callV (As := [.int (1 : Int32), .int (μ1.1 3 4)]) (rest := []) (pc := 127) hX dX6_readPart_127 (c_X6_refuse hL hr) mw_X6_refuse mv_X6_refuse ml_X6_43 (ekC hL rfl) (by decide) rfl rfl rfl rfl (by omega) (by decide) (Nat.le_of_ble_eq_true rfl) ?_
                exact so_zretH (pc := 130) hX hR h dX6_readPart_130
        · have h := iq hc56 h
          refine so_aload_n (pc := 49) hX dX6_readPart_49 3 rfl ?_
          refine so_iconst (v := (1 : Int32)) (pc := 50) hX dX6_readPart_50 (by decide) ?_
          refine so_iload (pc := 51) hX dX6_readPart_51 1 rfl ?_
          obtain ⟨r79, μ78, hr, h⟩ := obd h
          refine so_callV (As := [.int (1 : Int32), .int (μ1.1 3 4)]) (rest := []) (pc := 53) hX dX6_readPart_53 (c_X6_refuse hL hr) mw_X6_refuse mv_X6_refuse ml_X6_43 (ekC hL rfl) (by decide) rfl rfl rfl rfl (by omega) (by decide) (Nat.le_of_ble_eq_true rfl) ?_
          exact so_zretH (pc := 56) hX hR h dX6_readPart_56
set_option maxHeartbeats 4000000 in
set_option maxRecDepth 100000 in
theorem g_X6_readColumn_L27 {X : Cx} {dc : Nat} (hX : Fx X cX6_readColumn RX6 (dc + 1)) (hL : (xV X).2.2.2 = lyC) (hn : xn X = 8) {rZ : Int32} {μZ : Mem} (hR : Rt X (some .boolean) μZ (some (.int rZ))) {rk : Nat → Int32 → Int32 → Int32 → Int32 → Mem → Option (Int32 × Mem)} (hdc : 12 ≤ dc) (hrec_readRow : ∀ (x0 x1 x2 : Int32) (μ : Mem) (r : Int32) (μ2 : Mem), rk 0 x0 x1 x2 0 μ = some (r, μ2) → CT (xl X) (xV X) yX6_readRow cX6_readRow 8 (some .boolean) dc [.ref (evA (xV X) 3), .int x0, .int x1, .int x2] μ μ2 (some (.int r))) (hrec_readColumn : ∀ (x0 x1 x2 : Int32) (μ : Mem) (r : Int32) (μ2 : Mem), rk 1 x0 x1 x2 0 μ = some (r, μ2) → CT (xl X) (xV X) yX6_readColumn cX6_readColumn 8 (some .boolean) dc [.ref (evA (xV X) 3), .int x0, .int x1, .int x2] μ μ2 (some (.int r))) (hrec_readPart : ∀ (x0 x1 x2 : Int32) (μ : Mem) (r : Int32) (μ2 : Mem), rk 2 x0 x1 x2 0 μ = some (r, μ2) → CT (xl X) (xV X) yX6_readPart cX6_readPart 8 (some .boolean) dc [.ref (evA (xV X) 3), .int x0, .int x1, .int x2] μ μ2 (some (.int r))) (hrec_readBracket : ∀ (x0 x1 x2 : Int32) (μ : Mem) (r : Int32) (μ2 : Mem), rk 3 x0 x1 x2 0 μ = some (r, μ2) → CT (xl X) (xV X) yX6_readBracket cX6_readBracket 4 (some .boolean) dc [.ref (evA (xV X) 3), .int x0, .int x1, .int x2] μ μ2 (some (.int r))) (hrec_readChanged : ∀ (x0 x1 x2 x3 : Int32) (μ : Mem) (r : Int32) (μ2 : Mem), rk 4 x0 x1 x2 x3 μ = some (r, μ2) → CT (xl X) (xV X) yX6_readChanged cX6_readChanged 5 (some .boolean) dc [.ref (evA (xV X) 3), .int x0, .int x1, .int x2, .int x3] μ μ2 (some (.int r))) (hrec_readRepeated : ∀ (x0 x1 x2 x3 : Int32) (μ : Mem) (r : Int32) (μ2 : Mem), rk 5 x0 x1 x2 x3 μ = some (r, μ2) → CT (xl X) (xV X) yX6_readRepeated cX6_readRepeated 6 (some .boolean) dc [.ref (evA (xV X) 3), .int x0, .int x1, .int x2, .int x3] μ μ2 (some (.int r))) {v1 : Int32} {v2 : Int32} {v3 : Int32} {v4 : Int32}  {K : Int32 → Mem → Option (Int32 × Mem)} (hK : ∀ (v5 : Int32) (μ : Mem), K v5 μ = some (rZ, μZ) → Gd X 121 [(0, .ref (evA (xV X) 3)), (4, .int v4), (5, .int v5)] [] μ) : ∀ (n : Nat) (v5 : Int32) (v6 : Int32) (μ : Mem), f_X6_readColumn_L27 rk v1 v2 v3 v4 K n v5 v6 μ = some (rZ, μZ) → Gd X 27 [(0, .ref (evA (xV X) 3)), (1, .int v1), (2, .int v2), (3, .int v3), (4, .int v4), (5, .int v5), (6, .int v6)] [] μ := by
  intro n
  induction n with
  | zero => intro _ _ _ h; rw [f_X6_readColumn_L27] at h; cases h
  | succ n ih =>
    intro v5 v6 μ h
    rw [f_X6_readColumn_L27] at h
    refine so_iload (pc := 27) hX dX6_readColumn_27 6 rfl ?_
    refine so_bipush (v := (8 : Int32)) (pc := 29) hX dX6_readColumn_29 (by decide) ?_
    refine so_icmp_ge (pc := 31) hX 121 dX6_readColumn_31 (by decide) (fun hc4 => ?_) (fun hc4 => ?_)
    · have h := ip hc4 h
      refine so_sub (pc := 121) (lv' := [(0, .ref (evA (xV X) 3)), (4, .int v4), (5, .int v5)]) [0, 4, 5] rfl ?_
      exact hK _ _ h
    · have h := iq hc4 h
      refine so_aload_n (pc := 34) hX dX6_readColumn_34 0 rfl ?_
      obtain ⟨r6, μ5, hr, h⟩ := obd h
      refine so_callV (As := []) (rest := []) (pc := 35) hX dX6_readColumn_35 (c_X6_nextByte hL hr) mw_X6_nextByte mv_X6_nextByte ml_X6_39 (ekC hL rfl) (by decide) rfl rfl rfl rfl (by omega) (by decide) (Nat.le_of_ble_eq_true rfl) ?_
      refine so_bipush (v := (47 : Int32)) (pc := 38) hX dX6_readColumn_38 (by decide) ?_
      refine so_icmp_ne (pc := 40) hX 121 dX6_readColumn_40 (by decide) (fun hc7 => ?_) (fun hc7 => ?_)
      · have h := iq hc7 h
        refine so_sub (pc := 121) (lv' := [(0, .ref (evA (xV X) 3)), (4, .int v4), (5, .int v5)]) [0, 4, 5] rfl ?_
        exact hK _ _ h
      · have h := ip hc7 h
        refine so_aload_n (pc := 43) hX dX6_readColumn_43 0 rfl ?_
        refine so_gI (pc := 44) hX dX6_readColumn_44 fl_X6_29 (ekC hL rfl) ?_
        refine so_istore (pc := 47) hX dX6_readColumn_47 [(7, .int (μ5.1 3 4)), (0, .ref (evA (xV X) 3)), (1, .int v1), (2, .int v2), (3, .int v3), (4, .int v4), (5, .int v5), (6, .int v6)] (by rw [hn]; decide) rfl ?_
        refine so_aload_n (pc := 49) hX dX6_readColumn_49 1 rfl ?_
        refine so_dup (pc := 50) hX dX6_readColumn_50 rfl ?_
        refine so_gI (pc := 51) hX dX6_readColumn_51 fl_X6_29 (ekC hL rfl) ?_
        refine so_iconst (v := (1 : Int32)) (pc := 54) hX dX6_readColumn_54 (by decide) ?_
        refine so_iadd (pc := 55) hX dX6_readColumn_55 ?_
        refine so_pI (pc := 56) hX dX6_readColumn_56 fl_X6_29 fw_6_4 (ekC hL rfl) rfl rfl ?_
        refine so_aload_n (pc := 59) hX dX6_readColumn_59 1 rfl ?_
        refine so_iload_n (pc := 60) hX dX6_readColumn_60 2 rfl ?_
        refine so_iload_n (pc := 61) hX dX6_readColumn_61 3 rfl ?_
        refine so_iload (pc := 62) hX dX6_readColumn_62 6 rfl ?_
        refine so_iadd (pc := 64) hX dX6_readColumn_64 ?_
        refine so_iload_n (pc := 65) hX dX6_readColumn_65 4 rfl ?_
        obtain ⟨r9, μ8, hr, h⟩ := obd h
        refine so_callV (As := [.int v1, .int (v2 + v5), .int v3]) (rest := []) (pc := 66) hX dX6_readColumn_66 (hrec_readPart _ _ _ _ _ _ hr) mw_X6_readPart mv_X6_readPart ml_X6_58 (ekC hL rfl) (by decide) rfl rfl rfl rfl (Nat.le_refl _) (by decide) (Nat.le_of_ble_eq_true rfl) ?_
        refine so_if_ne (pc := 69) hX 74 dX6_readColumn_69 (by decide) (fun hc10 => ?_) (fun hc10 => ?_)
        · have h := iq hc10 h
          refine so_aload_n (pc := 74) hX dX6_readColumn_74 1 rfl ?_
          refine so_gI (pc := 75) hX dX6_readColumn_75 fl_X6_47 (ekC hL rfl) ?_
          refine so_iload (pc := 78) hX dX6_readColumn_78 5 rfl ?_
          refine so_icmp_eq (pc := 80) hX 91 dX6_readColumn_80 (by decide) (fun hc11 => ?_) (fun hc11 => ?_)
          · have h := ip hc11 h
            refine so_iload (pc := 91) hX dX6_readColumn_91 6 rfl ?_
            refine so_aload_n (pc := 93) hX dX6_readColumn_93 1 rfl ?_
            refine so_gI (pc := 94) hX dX6_readColumn_94 fl_X6_51 (ekC hL rfl) ?_
            refine so_iadd (pc := 97) hX dX6_readColumn_97 ?_
            refine so_istore (pc := 98) hX dX6_readColumn_98 [(5, .int (v5 + (μ8.1 3 6))), (7, .int (μ5.1 3 4)), (0, .ref (evA (xV X) 3)), (1, .int v1), (2, .int v2), (3, .int v3), (4, .int v4), (6, .int v6)] (by rw [hn]; decide) rfl ?_
            refine so_iload (pc := 100) hX dX6_readColumn_100 0 rfl ?_
            refine so_bipush (v := (8 : Int32)) (pc := 102) hX dX6_readColumn_102 (by decide) ?_
            refine so_icmp_le (pc := 104) hX 115 dX6_readColumn_104 (by decide) (fun hc12 => ?_) (fun hc12 => ?_)
            · have h := ip hc12 h
              refine so_iinc (pc := 115) hX dX6_readColumn_115 7 (1 : Int32) [(6, .int (v6 + (1 : Int32))), (5, .int (v5 + (μ8.1 3 6))), (7, .int (μ5.1 3 4)), (0, .ref (evA (xV X) 3)), (1, .int v1), (2, .int v2), (3, .int v3), (4, .int v4)] rfl (by decide) (by rw [hn]; decide) rfl ?_
              refine so_goto (pc := 118) hX 27 dX6_readColumn_118 (by decide) ?_
              refine so_sub (pc := 27) (lv' := [(0, .ref (evA (xV X) 3)), (1, .int v1), (2, .int v2), (3, .int v3), (4, .int v4), (5, .int (v5 + (μ8.1 3 6))), (6, .int (v6 + (1 : Int32)))]) [3, 4, 5, 6, 7, 1, 0] rfl ?_
              exact ih _ _ _ h
            · have h := iq hc12 h
              refine so_aload_n (pc := 107) hX dX6_readColumn_107 2 rfl ?_
              refine so_iconst (v := (3 : Int32)) (pc := 108) hX dX6_readColumn_108 (by decide) ?_
              refine so_iload (pc := 109) hX dX6_readColumn_109 1 rfl ?_
              obtain ⟨r14, μ13, hr, h⟩ := obd h
              refine so_callV (As := [.int (3 : Int32), .int (μ5.1 3 4)]) (rest := []) (pc := 111) hX dX6_readColumn_111 (c_X6_refuse hL hr) mw_X6_refuse mv_X6_refuse ml_X6_43 (ekC hL rfl) (by decide) rfl rfl rfl rfl (by omega) (by decide) (Nat.le_of_ble_eq_true rfl) ?_
              exact so_zretH (pc := 114) hX hR h dX6_readColumn_114
          · have h := iq hc11 h
            refine so_aload_n (pc := 83) hX dX6_readColumn_83 1 rfl ?_
            refine so_iconst (v := (2 : Int32)) (pc := 84) hX dX6_readColumn_84 (by decide) ?_
            refine so_iload (pc := 85) hX dX6_readColumn_85 0 rfl ?_
            obtain ⟨r16, μ15, hr, h⟩ := obd h
            refine so_callV (As := [.int (2 : Int32), .int (μ5.1 3 4)]) (rest := []) (pc := 87) hX dX6_readColumn_87 (c_X6_refuse hL hr) mw_X6_refuse mv_X6_refuse ml_X6_43 (ekC hL rfl) (by decide) rfl rfl rfl rfl (by omega) (by decide) (Nat.le_of_ble_eq_true rfl) ?_
            exact so_zretH (pc := 90) hX hR h dX6_readColumn_90
        · have h := ip hc10 h
          refine so_iconst (v := (0 : Int32)) (pc := 72) hX dX6_readColumn_72 (by decide) ?_
          exact so_iretH (pc := 73) hX hR h (by decide) dX6_readColumn_73
set_option maxHeartbeats 4000000 in
set_option maxRecDepth 100000 in
theorem c_X6_readColumn {l : Launch} {V : Ev} (hL : V.2.2.2 = lyC) {rk : Nat → Int32 → Int32 → Int32 → Int32 → Mem → Option (Int32 × Mem)} {dc : Nat} (hdc : 12 ≤ dc) (hrec_readRow : ∀ (x0 x1 x2 : Int32) (μ : Mem) (r : Int32) (μ2 : Mem), rk 0 x0 x1 x2 0 μ = some (r, μ2) → CT l V yX6_readRow cX6_readRow 8 (some .boolean) dc [.ref (evA V 3), .int x0, .int x1, .int x2] μ μ2 (some (.int r))) (hrec_readColumn : ∀ (x0 x1 x2 : Int32) (μ : Mem) (r : Int32) (μ2 : Mem), rk 1 x0 x1 x2 0 μ = some (r, μ2) → CT l V yX6_readColumn cX6_readColumn 8 (some .boolean) dc [.ref (evA V 3), .int x0, .int x1, .int x2] μ μ2 (some (.int r))) (hrec_readPart : ∀ (x0 x1 x2 : Int32) (μ : Mem) (r : Int32) (μ2 : Mem), rk 2 x0 x1 x2 0 μ = some (r, μ2) → CT l V yX6_readPart cX6_readPart 8 (some .boolean) dc [.ref (evA V 3), .int x0, .int x1, .int x2] μ μ2 (some (.int r))) (hrec_readBracket : ∀ (x0 x1 x2 : Int32) (μ : Mem) (r : Int32) (μ2 : Mem), rk 3 x0 x1 x2 0 μ = some (r, μ2) → CT l V yX6_readBracket cX6_readBracket 4 (some .boolean) dc [.ref (evA V 3), .int x0, .int x1, .int x2] μ μ2 (some (.int r))) (hrec_readChanged : ∀ (x0 x1 x2 x3 : Int32) (μ : Mem) (r : Int32) (μ2 : Mem), rk 4 x0 x1 x2 x3 μ = some (r, μ2) → CT l V yX6_readChanged cX6_readChanged 5 (some .boolean) dc [.ref (evA V 3), .int x0, .int x1, .int x2, .int x3] μ μ2 (some (.int r))) (hrec_readRepeated : ∀ (x0 x1 x2 x3 : Int32) (μ : Mem) (r : Int32) (μ2 : Mem), rk 5 x0 x1 x2 x3 μ = some (r, μ2) → CT l V yX6_readRepeated cX6_readRepeated 6 (some .boolean) dc [.ref (evA V 3), .int x0, .int x1, .int x2, .int x3] μ μ2 (some (.int r))) {v1 : Int32} {v2 : Int32} {v3 : Int32}  {μ : Mem} {rZ : Int32} {μZ : Mem} (h : f_X6_readColumn rk v1 v2 v3 μ = some (rZ, μZ)) : CT l V yX6_readColumn cX6_readColumn 8 (some .boolean) (dc + 1) [.ref (evA V 3), .int v1, .int v2, .int v3] μ μZ (some (.int rZ)) := by
  refine so_met [(0, .ref (evA V 3)), (1, .int v1), (2, .int v2), (3, .int v3)] (by decide) (Nat.le_of_ble_eq_true rfl) (evCn hL) rfl ?_
  intro X hl hV hn hX hR
  subst hl hV
  unfold f_X6_readColumn at h
  refine so_aload_n (pc := 0) hX dX6_readColumn_0 0 rfl ?_
  refine so_iload_n (pc := 1) hX dX6_readColumn_1 1 rfl ?_
  refine so_iload_n (pc := 2) hX dX6_readColumn_2 2 rfl ?_
  refine so_iload_n (pc := 3) hX dX6_readColumn_3 3 rfl ?_
  obtain ⟨r2, μ1, hr, h⟩ := obd h
  refine so_callV (As := [.int v1, .int v2, .int v3]) (rest := []) (pc := 4) hX dX6_readColumn_4 (hrec_readPart _ _ _ _ _ _ hr) mw_X6_readPart mv_X6_readPart ml_X6_58 (ekC hL rfl) (by decide) rfl rfl rfl rfl (Nat.le_refl _) (by decide) (Nat.le_of_ble_eq_true rfl) ?_
  refine so_if_ne (pc := 7) hX 12 dX6_readColumn_7 (by decide) (fun hc3 => ?_) (fun hc3 => ?_)
  · have h := iq hc3 h
    refine so_aload_n (pc := 12) hX dX6_readColumn_12 0 rfl ?_
    refine so_gI (pc := 13) hX dX6_readColumn_13 fl_X6_47 (ekC hL rfl) ?_
    refine so_istore (pc := 16) hX dX6_readColumn_16 [(4, .int (μ1.1 3 5)), (0, .ref (evA (xV X) 3)), (1, .int v1), (2, .int v2), (3, .int v3)] (by rw [hn]; decide) rfl ?_
    refine so_aload_n (pc := 18) hX dX6_readColumn_18 1 rfl ?_
    refine so_gI (pc := 19) hX dX6_readColumn_19 fl_X6_51 (ekC hL rfl) ?_
    refine so_istore (pc := 22) hX dX6_readColumn_22 [(5, .int (μ1.1 3 6)), (4, .int (μ1.1 3 5)), (0, .ref (evA (xV X) 3)), (1, .int v1), (2, .int v2), (3, .int v3)] (by rw [hn]; decide) rfl ?_
    refine so_iconst (v := (0 : Int32)) (pc := 24) hX dX6_readColumn_24 (by decide) ?_
    refine so_istore (pc := 25) hX dX6_readColumn_25 [(6, .int (0 : Int32)), (5, .int (μ1.1 3 6)), (4, .int (μ1.1 3 5)), (0, .ref (evA (xV X) 3)), (1, .int v1), (2, .int v2), (3, .int v3)] (by rw [hn]; decide) rfl ?_
    refine so_sub (pc := 27) (lv' := [(0, .ref (evA (xV X) 3)), (1, .int v1), (2, .int v2), (3, .int v3), (4, .int (μ1.1 3 5)), (5, .int (μ1.1 3 6)), (6, .int (0 : Int32))]) [3, 4, 5, 6, 2, 1, 0] rfl ?_
    refine g_X6_readColumn_L27 hX hL hn hR hdc hrec_readRow hrec_readColumn hrec_readPart hrec_readBracket hrec_readChanged hrec_readRepeated (fun w17 μ18 h => ?_) FU _ _ _ h
    refine so_aload_n (pc := 121) hX dX6_readColumn_121 0 rfl ?_
    refine so_iload (pc := 122) hX dX6_readColumn_122 1 rfl ?_
    refine so_pI (pc := 124) hX dX6_readColumn_124 fl_X6_47 fw_6_5 (ekC hL rfl) rfl rfl ?_
    refine so_aload_n (pc := 127) hX dX6_readColumn_127 0 rfl ?_
    refine so_iload (pc := 128) hX dX6_readColumn_128 2 rfl ?_
    refine so_pI (pc := 130) hX dX6_readColumn_130 fl_X6_51 fw_6_6 (ekC hL rfl) rfl rfl ?_
    refine so_iconst (v := (1 : Int32)) (pc := 133) hX dX6_readColumn_133 (by decide) ?_
    exact so_iretH (pc := 134) hX hR h (by decide) dX6_readColumn_134
  · have h := ip hc3 h
    refine so_iconst (v := (0 : Int32)) (pc := 10) hX dX6_readColumn_10 (by decide) ?_
    exact so_iretH (pc := 11) hX hR h (by decide) dX6_readColumn_11
set_option maxHeartbeats 4000000 in
set_option maxRecDepth 100000 in
theorem g_X6_readRow_L27 {X : Cx} {dc : Nat} (hX : Fx X cX6_readRow RX6 (dc + 1)) (hL : (xV X).2.2.2 = lyC) (hn : xn X = 8) {rZ : Int32} {μZ : Mem} (hR : Rt X (some .boolean) μZ (some (.int rZ))) {rk : Nat → Int32 → Int32 → Int32 → Int32 → Mem → Option (Int32 × Mem)} (hdc : 12 ≤ dc) (hrec_readRow : ∀ (x0 x1 x2 : Int32) (μ : Mem) (r : Int32) (μ2 : Mem), rk 0 x0 x1 x2 0 μ = some (r, μ2) → CT (xl X) (xV X) yX6_readRow cX6_readRow 8 (some .boolean) dc [.ref (evA (xV X) 3), .int x0, .int x1, .int x2] μ μ2 (some (.int r))) (hrec_readColumn : ∀ (x0 x1 x2 : Int32) (μ : Mem) (r : Int32) (μ2 : Mem), rk 1 x0 x1 x2 0 μ = some (r, μ2) → CT (xl X) (xV X) yX6_readColumn cX6_readColumn 8 (some .boolean) dc [.ref (evA (xV X) 3), .int x0, .int x1, .int x2] μ μ2 (some (.int r))) (hrec_readPart : ∀ (x0 x1 x2 : Int32) (μ : Mem) (r : Int32) (μ2 : Mem), rk 2 x0 x1 x2 0 μ = some (r, μ2) → CT (xl X) (xV X) yX6_readPart cX6_readPart 8 (some .boolean) dc [.ref (evA (xV X) 3), .int x0, .int x1, .int x2] μ μ2 (some (.int r))) (hrec_readBracket : ∀ (x0 x1 x2 : Int32) (μ : Mem) (r : Int32) (μ2 : Mem), rk 3 x0 x1 x2 0 μ = some (r, μ2) → CT (xl X) (xV X) yX6_readBracket cX6_readBracket 4 (some .boolean) dc [.ref (evA (xV X) 3), .int x0, .int x1, .int x2] μ μ2 (some (.int r))) (hrec_readChanged : ∀ (x0 x1 x2 x3 : Int32) (μ : Mem) (r : Int32) (μ2 : Mem), rk 4 x0 x1 x2 x3 μ = some (r, μ2) → CT (xl X) (xV X) yX6_readChanged cX6_readChanged 5 (some .boolean) dc [.ref (evA (xV X) 3), .int x0, .int x1, .int x2, .int x3] μ μ2 (some (.int r))) (hrec_readRepeated : ∀ (x0 x1 x2 x3 : Int32) (μ : Mem) (r : Int32) (μ2 : Mem), rk 5 x0 x1 x2 x3 μ = some (r, μ2) → CT (xl X) (xV X) yX6_readRepeated cX6_readRepeated 6 (some .boolean) dc [.ref (evA (xV X) 3), .int x0, .int x1, .int x2, .int x3] μ μ2 (some (.int r))) {v1 : Int32} {v2 : Int32} {v3 : Int32} {v5 : Int32}  {K : Int32 → Mem → Option (Int32 × Mem)} (hK : ∀ (v4 : Int32) (μ : Mem), K v4 μ = some (rZ, μZ) → Gd X 121 [(0, .ref (evA (xV X) 3)), (4, .int v4), (5, .int v5)] [] μ) : ∀ (n : Nat) (v4 : Int32) (v6 : Int32) (μ : Mem), f_X6_readRow_L27 rk v1 v2 v3 v5 K n v4 v6 μ = some (rZ, μZ) → Gd X 27 [(0, .ref (evA (xV X) 3)), (1, .int v1), (2, .int v2), (3, .int v3), (4, .int v4), (5, .int v5), (6, .int v6)] [] μ := by
  intro n
  induction n with
  | zero => intro _ _ _ h; rw [f_X6_readRow_L27] at h; cases h
  | succ n ih =>
    intro v4 v6 μ h
    rw [f_X6_readRow_L27] at h
    refine so_iload (pc := 27) hX dX6_readRow_27 6 rfl ?_
    refine so_bipush (v := (8 : Int32)) (pc := 29) hX dX6_readRow_29 (by decide) ?_
    refine so_icmp_ge (pc := 31) hX 121 dX6_readRow_31 (by decide) (fun hc4 => ?_) (fun hc4 => ?_)
    · have h := ip hc4 h
      refine so_sub (pc := 121) (lv' := [(0, .ref (evA (xV X) 3)), (4, .int v4), (5, .int v5)]) [0, 4, 5] rfl ?_
      exact hK _ _ h
    · have h := iq hc4 h
      refine so_aload_n (pc := 34) hX dX6_readRow_34 0 rfl ?_
      obtain ⟨r6, μ5, hr, h⟩ := obd h
      refine so_callV (As := []) (rest := []) (pc := 35) hX dX6_readRow_35 (c_X6_nextByte hL hr) mw_X6_nextByte mv_X6_nextByte ml_X6_39 (ekC hL rfl) (by decide) rfl rfl rfl rfl (by omega) (by decide) (Nat.le_of_ble_eq_true rfl) ?_
      refine so_bipush (v := (124 : Int32)) (pc := 38) hX dX6_readRow_38 (by decide) ?_
      refine so_icmp_ne (pc := 40) hX 121 dX6_readRow_40 (by decide) (fun hc7 => ?_) (fun hc7 => ?_)
      · have h := iq hc7 h
        refine so_sub (pc := 121) (lv' := [(0, .ref (evA (xV X) 3)), (4, .int v4), (5, .int v5)]) [0, 4, 5] rfl ?_
        exact hK _ _ h
      · have h := ip hc7 h
        refine so_aload_n (pc := 43) hX dX6_readRow_43 0 rfl ?_
        refine so_gI (pc := 44) hX dX6_readRow_44 fl_X6_29 (ekC hL rfl) ?_
        refine so_istore (pc := 47) hX dX6_readRow_47 [(7, .int (μ5.1 3 4)), (0, .ref (evA (xV X) 3)), (1, .int v1), (2, .int v2), (3, .int v3), (4, .int v4), (5, .int v5), (6, .int v6)] (by rw [hn]; decide) rfl ?_
        refine so_aload_n (pc := 49) hX dX6_readRow_49 1 rfl ?_
        refine so_dup (pc := 50) hX dX6_readRow_50 rfl ?_
        refine so_gI (pc := 51) hX dX6_readRow_51 fl_X6_29 (ekC hL rfl) ?_
        refine so_iconst (v := (1 : Int32)) (pc := 54) hX dX6_readRow_54 (by decide) ?_
        refine so_iadd (pc := 55) hX dX6_readRow_55 ?_
        refine so_pI (pc := 56) hX dX6_readRow_56 fl_X6_29 fw_6_4 (ekC hL rfl) rfl rfl ?_
        refine so_aload_n (pc := 59) hX dX6_readRow_59 1 rfl ?_
        refine so_iload_n (pc := 60) hX dX6_readRow_60 2 rfl ?_
        refine so_iload (pc := 61) hX dX6_readRow_61 5 rfl ?_
        refine so_iadd (pc := 63) hX dX6_readRow_63 ?_
        refine so_iload_n (pc := 64) hX dX6_readRow_64 3 rfl ?_
        refine so_iload_n (pc := 65) hX dX6_readRow_65 4 rfl ?_
        obtain ⟨r9, μ8, hr, h⟩ := obd h
        refine so_callV (As := [.int (v1 + v4), .int v2, .int v3]) (rest := []) (pc := 66) hX dX6_readRow_66 (hrec_readColumn _ _ _ _ _ _ hr) mw_X6_readColumn mv_X6_readColumn ml_X6_55 (ekC hL rfl) (by decide) rfl rfl rfl rfl (Nat.le_refl _) (by decide) (Nat.le_of_ble_eq_true rfl) ?_
        refine so_if_ne (pc := 69) hX 74 dX6_readRow_69 (by decide) (fun hc10 => ?_) (fun hc10 => ?_)
        · have h := iq hc10 h
          refine so_aload_n (pc := 74) hX dX6_readRow_74 1 rfl ?_
          refine so_gI (pc := 75) hX dX6_readRow_75 fl_X6_51 (ekC hL rfl) ?_
          refine so_iload (pc := 78) hX dX6_readRow_78 6 rfl ?_
          refine so_icmp_eq (pc := 80) hX 91 dX6_readRow_80 (by decide) (fun hc11 => ?_) (fun hc11 => ?_)
          · have h := ip hc11 h
            refine so_iload (pc := 91) hX dX6_readRow_91 5 rfl ?_
            refine so_aload_n (pc := 93) hX dX6_readRow_93 1 rfl ?_
            refine so_gI (pc := 94) hX dX6_readRow_94 fl_X6_47 (ekC hL rfl) ?_
            refine so_iadd (pc := 97) hX dX6_readRow_97 ?_
            refine so_istore (pc := 98) hX dX6_readRow_98 [(4, .int (v4 + (μ8.1 3 5))), (7, .int (μ5.1 3 4)), (0, .ref (evA (xV X) 3)), (1, .int v1), (2, .int v2), (3, .int v3), (5, .int v5), (6, .int v6)] (by rw [hn]; decide) rfl ?_
            refine so_iload (pc := 100) hX dX6_readRow_100 0 rfl ?_
            refine so_bipush (v := (8 : Int32)) (pc := 102) hX dX6_readRow_102 (by decide) ?_
            refine so_icmp_le (pc := 104) hX 115 dX6_readRow_104 (by decide) (fun hc12 => ?_) (fun hc12 => ?_)
            · have h := ip hc12 h
              refine so_iinc (pc := 115) hX dX6_readRow_115 7 (1 : Int32) [(6, .int (v6 + (1 : Int32))), (4, .int (v4 + (μ8.1 3 5))), (7, .int (μ5.1 3 4)), (0, .ref (evA (xV X) 3)), (1, .int v1), (2, .int v2), (3, .int v3), (5, .int v5)] rfl (by decide) (by rw [hn]; decide) rfl ?_
              refine so_goto (pc := 118) hX 27 dX6_readRow_118 (by decide) ?_
              refine so_sub (pc := 27) (lv' := [(0, .ref (evA (xV X) 3)), (1, .int v1), (2, .int v2), (3, .int v3), (4, .int (v4 + (μ8.1 3 5))), (5, .int v5), (6, .int (v6 + (1 : Int32)))]) [3, 4, 5, 6, 1, 7, 0] rfl ?_
              exact ih _ _ _ h
            · have h := iq hc12 h
              refine so_aload_n (pc := 107) hX dX6_readRow_107 2 rfl ?_
              refine so_iconst (v := (3 : Int32)) (pc := 108) hX dX6_readRow_108 (by decide) ?_
              refine so_iload (pc := 109) hX dX6_readRow_109 1 rfl ?_
              obtain ⟨r14, μ13, hr, h⟩ := obd h
              refine so_callV (As := [.int (3 : Int32), .int (μ5.1 3 4)]) (rest := []) (pc := 111) hX dX6_readRow_111 (c_X6_refuse hL hr) mw_X6_refuse mv_X6_refuse ml_X6_43 (ekC hL rfl) (by decide) rfl rfl rfl rfl (by omega) (by decide) (Nat.le_of_ble_eq_true rfl) ?_
              exact so_zretH (pc := 114) hX hR h dX6_readRow_114
          · have h := iq hc11 h
            refine so_aload_n (pc := 83) hX dX6_readRow_83 1 rfl ?_
            refine so_iconst (v := (2 : Int32)) (pc := 84) hX dX6_readRow_84 (by decide) ?_
            refine so_iload (pc := 85) hX dX6_readRow_85 0 rfl ?_
            obtain ⟨r16, μ15, hr, h⟩ := obd h
            refine so_callV (As := [.int (2 : Int32), .int (μ5.1 3 4)]) (rest := []) (pc := 87) hX dX6_readRow_87 (c_X6_refuse hL hr) mw_X6_refuse mv_X6_refuse ml_X6_43 (ekC hL rfl) (by decide) rfl rfl rfl rfl (by omega) (by decide) (Nat.le_of_ble_eq_true rfl) ?_
            exact so_zretH (pc := 90) hX hR h dX6_readRow_90
        · have h := ip hc10 h
          refine so_iconst (v := (0 : Int32)) (pc := 72) hX dX6_readRow_72 (by decide) ?_
          exact so_iretH (pc := 73) hX hR h (by decide) dX6_readRow_73
set_option maxHeartbeats 4000000 in
set_option maxRecDepth 100000 in
theorem c_X6_readRow {l : Launch} {V : Ev} (hL : V.2.2.2 = lyC) {rk : Nat → Int32 → Int32 → Int32 → Int32 → Mem → Option (Int32 × Mem)} {dc : Nat} (hdc : 12 ≤ dc) (hrec_readRow : ∀ (x0 x1 x2 : Int32) (μ : Mem) (r : Int32) (μ2 : Mem), rk 0 x0 x1 x2 0 μ = some (r, μ2) → CT l V yX6_readRow cX6_readRow 8 (some .boolean) dc [.ref (evA V 3), .int x0, .int x1, .int x2] μ μ2 (some (.int r))) (hrec_readColumn : ∀ (x0 x1 x2 : Int32) (μ : Mem) (r : Int32) (μ2 : Mem), rk 1 x0 x1 x2 0 μ = some (r, μ2) → CT l V yX6_readColumn cX6_readColumn 8 (some .boolean) dc [.ref (evA V 3), .int x0, .int x1, .int x2] μ μ2 (some (.int r))) (hrec_readPart : ∀ (x0 x1 x2 : Int32) (μ : Mem) (r : Int32) (μ2 : Mem), rk 2 x0 x1 x2 0 μ = some (r, μ2) → CT l V yX6_readPart cX6_readPart 8 (some .boolean) dc [.ref (evA V 3), .int x0, .int x1, .int x2] μ μ2 (some (.int r))) (hrec_readBracket : ∀ (x0 x1 x2 : Int32) (μ : Mem) (r : Int32) (μ2 : Mem), rk 3 x0 x1 x2 0 μ = some (r, μ2) → CT l V yX6_readBracket cX6_readBracket 4 (some .boolean) dc [.ref (evA V 3), .int x0, .int x1, .int x2] μ μ2 (some (.int r))) (hrec_readChanged : ∀ (x0 x1 x2 x3 : Int32) (μ : Mem) (r : Int32) (μ2 : Mem), rk 4 x0 x1 x2 x3 μ = some (r, μ2) → CT l V yX6_readChanged cX6_readChanged 5 (some .boolean) dc [.ref (evA V 3), .int x0, .int x1, .int x2, .int x3] μ μ2 (some (.int r))) (hrec_readRepeated : ∀ (x0 x1 x2 x3 : Int32) (μ : Mem) (r : Int32) (μ2 : Mem), rk 5 x0 x1 x2 x3 μ = some (r, μ2) → CT l V yX6_readRepeated cX6_readRepeated 6 (some .boolean) dc [.ref (evA V 3), .int x0, .int x1, .int x2, .int x3] μ μ2 (some (.int r))) {v1 : Int32} {v2 : Int32} {v3 : Int32}  {μ : Mem} {rZ : Int32} {μZ : Mem} (h : f_X6_readRow rk v1 v2 v3 μ = some (rZ, μZ)) : CT l V yX6_readRow cX6_readRow 8 (some .boolean) (dc + 1) [.ref (evA V 3), .int v1, .int v2, .int v3] μ μZ (some (.int rZ)) := by
  refine so_met [(0, .ref (evA V 3)), (1, .int v1), (2, .int v2), (3, .int v3)] (by decide) (Nat.le_of_ble_eq_true rfl) (evCn hL) rfl ?_
  intro X hl hV hn hX hR
  subst hl hV
  unfold f_X6_readRow at h
  refine so_aload_n (pc := 0) hX dX6_readRow_0 0 rfl ?_
  refine so_iload_n (pc := 1) hX dX6_readRow_1 1 rfl ?_
  refine so_iload_n (pc := 2) hX dX6_readRow_2 2 rfl ?_
  refine so_iload_n (pc := 3) hX dX6_readRow_3 3 rfl ?_
  obtain ⟨r2, μ1, hr, h⟩ := obd h
  refine so_callV (As := [.int v1, .int v2, .int v3]) (rest := []) (pc := 4) hX dX6_readRow_4 (hrec_readColumn _ _ _ _ _ _ hr) mw_X6_readColumn mv_X6_readColumn ml_X6_55 (ekC hL rfl) (by decide) rfl rfl rfl rfl (Nat.le_refl _) (by decide) (Nat.le_of_ble_eq_true rfl) ?_
  refine so_if_ne (pc := 7) hX 12 dX6_readRow_7 (by decide) (fun hc3 => ?_) (fun hc3 => ?_)
  · have h := iq hc3 h
    refine so_aload_n (pc := 12) hX dX6_readRow_12 0 rfl ?_
    refine so_gI (pc := 13) hX dX6_readRow_13 fl_X6_47 (ekC hL rfl) ?_
    refine so_istore (pc := 16) hX dX6_readRow_16 [(4, .int (μ1.1 3 5)), (0, .ref (evA (xV X) 3)), (1, .int v1), (2, .int v2), (3, .int v3)] (by rw [hn]; decide) rfl ?_
    refine so_aload_n (pc := 18) hX dX6_readRow_18 1 rfl ?_
    refine so_gI (pc := 19) hX dX6_readRow_19 fl_X6_51 (ekC hL rfl) ?_
    refine so_istore (pc := 22) hX dX6_readRow_22 [(5, .int (μ1.1 3 6)), (4, .int (μ1.1 3 5)), (0, .ref (evA (xV X) 3)), (1, .int v1), (2, .int v2), (3, .int v3)] (by rw [hn]; decide) rfl ?_
    refine so_iconst (v := (0 : Int32)) (pc := 24) hX dX6_readRow_24 (by decide) ?_
    refine so_istore (pc := 25) hX dX6_readRow_25 [(6, .int (0 : Int32)), (5, .int (μ1.1 3 6)), (4, .int (μ1.1 3 5)), (0, .ref (evA (xV X) 3)), (1, .int v1), (2, .int v2), (3, .int v3)] (by rw [hn]; decide) rfl ?_
    refine so_sub (pc := 27) (lv' := [(0, .ref (evA (xV X) 3)), (1, .int v1), (2, .int v2), (3, .int v3), (4, .int (μ1.1 3 5)), (5, .int (μ1.1 3 6)), (6, .int (0 : Int32))]) [3, 4, 5, 6, 2, 1, 0] rfl ?_
    refine g_X6_readRow_L27 hX hL hn hR hdc hrec_readRow hrec_readColumn hrec_readPart hrec_readBracket hrec_readChanged hrec_readRepeated (fun w17 μ18 h => ?_) FU _ _ _ h
    refine so_aload_n (pc := 121) hX dX6_readRow_121 0 rfl ?_
    refine so_iload (pc := 122) hX dX6_readRow_122 1 rfl ?_
    refine so_pI (pc := 124) hX dX6_readRow_124 fl_X6_47 fw_6_5 (ekC hL rfl) rfl rfl ?_
    refine so_aload_n (pc := 127) hX dX6_readRow_127 0 rfl ?_
    refine so_iload (pc := 128) hX dX6_readRow_128 2 rfl ?_
    refine so_pI (pc := 130) hX dX6_readRow_130 fl_X6_51 fw_6_6 (ekC hL rfl) rfl rfl ?_
    refine so_iconst (v := (1 : Int32)) (pc := 133) hX dX6_readRow_133 (by decide) ?_
    exact so_iretH (pc := 134) hX hR h (by decide) dX6_readRow_134
  · have h := ip hc3 h
    refine so_iconst (v := (0 : Int32)) (pc := 10) hX dX6_readRow_10 (by decide) ?_
    exact so_iretH (pc := 11) hX hR h (by decide) dX6_readRow_11
set_option maxHeartbeats 4000000 in
theorem knot_rd {l : Launch} {V : Ev} (hL : V.2.2.2 = lyC) : ∀ d : Nat, (∀ (x0 x1 x2 : Int32) (μ : Mem) (r : Int32) (μ2 : Mem), RD d 0 x0 x1 x2 0 μ = some (r, μ2) → CT l V yX6_readRow cX6_readRow 8 (some .boolean) (12 + d) [.ref (evA V 3), .int x0, .int x1, .int x2] μ μ2 (some (.int r))) ∧ (∀ (x0 x1 x2 : Int32) (μ : Mem) (r : Int32) (μ2 : Mem), RD d 1 x0 x1 x2 0 μ = some (r, μ2) → CT l V yX6_readColumn cX6_readColumn 8 (some .boolean) (12 + d) [.ref (evA V 3), .int x0, .int x1, .int x2] μ μ2 (some (.int r))) ∧ (∀ (x0 x1 x2 : Int32) (μ : Mem) (r : Int32) (μ2 : Mem), RD d 2 x0 x1 x2 0 μ = some (r, μ2) → CT l V yX6_readPart cX6_readPart 8 (some .boolean) (12 + d) [.ref (evA V 3), .int x0, .int x1, .int x2] μ μ2 (some (.int r))) ∧ (∀ (x0 x1 x2 : Int32) (μ : Mem) (r : Int32) (μ2 : Mem), RD d 3 x0 x1 x2 0 μ = some (r, μ2) → CT l V yX6_readBracket cX6_readBracket 4 (some .boolean) (12 + d) [.ref (evA V 3), .int x0, .int x1, .int x2] μ μ2 (some (.int r))) ∧ (∀ (x0 x1 x2 x3 : Int32) (μ : Mem) (r : Int32) (μ2 : Mem), RD d 4 x0 x1 x2 x3 μ = some (r, μ2) → CT l V yX6_readChanged cX6_readChanged 5 (some .boolean) (12 + d) [.ref (evA V 3), .int x0, .int x1, .int x2, .int x3] μ μ2 (some (.int r))) ∧ (∀ (x0 x1 x2 x3 : Int32) (μ : Mem) (r : Int32) (μ2 : Mem), RD d 5 x0 x1 x2 x3 μ = some (r, μ2) → CT l V yX6_readRepeated cX6_readRepeated 6 (some .boolean) (12 + d) [.ref (evA V 3), .int x0, .int x1, .int x2, .int x3] μ μ2 (some (.int r))) := by
  intro d
  induction d with
  | zero => exact ⟨(fun _ _ _ _ _ _ h => by cases h), (fun _ _ _ _ _ _ h => by cases h), (fun _ _ _ _ _ _ h => by cases h), (fun _ _ _ _ _ _ h => by cases h), (fun _ _ _ _ _ _ _ h => by cases h), (fun _ _ _ _ _ _ _ h => by cases h)⟩
  | succ d ih =>
    obtain ⟨h0, h1, h2, h3, h4, h5⟩ := ih
    refine ⟨fun _ _ _ _ _ _ h => c_X6_readRow hL (dc := 12 + d) (by omega) h0 h1 h2 h3 h4 h5 h, fun _ _ _ _ _ _ h => c_X6_readColumn hL (dc := 12 + d) (by omega) h0 h1 h2 h3 h4 h5 h, fun _ _ _ _ _ _ h => c_X6_readPart hL (dc := 12 + d) (by omega) h0 h1 h2 h3 h4 h5 h, fun _ _ _ _ _ _ h => c_X6_readBracket hL (dc := 12 + d) (by omega) h0 h1 h2 h3 h4 h5 h, fun _ _ _ _ _ _ _ h => c_X6_readChanged hL (dc := 12 + d) (by omega) h0 h1 h2 h3 h4 h5 h, fun _ _ _ _ _ _ _ h => c_X6_readRepeated hL (dc := 12 + d) (by omega) h0 h1 h2 h3 h4 h5 h⟩
theorem c_X6_readRowF {l : Launch} {V : Ev} (hL : V.2.2.2 = lyC) {v1 v2 v3 : Int32} {μ : Mem} {rZ : Int32} {μZ : Mem} (h : F_X6_readRow v1 v2 v3 μ = some (rZ, μZ)) : CT l V yX6_readRow cX6_readRow 8 (some .boolean) 52 [.ref (evA V 3), .int v1, .int v2, .int v3] μ μZ (some (.int rZ)) := (knot_rd hL 40).1 _ _ _ _ _ _ h
set_option maxHeartbeats 4000000 in
set_option maxRecDepth 100000 in
theorem c_X6_readTape {l : Launch} {V : Ev} (hL : V.2.2.2 = lyC)   {μ : Mem} {rZ : Int32} {μZ : Mem} (h : f_X6_readTape  μ = some (rZ, μZ)) : CT l V yX6_readTape cX6_readTape 1 (some .boolean) 53 [.ref (evA V 3)] μ μZ (some (.int rZ)) := by
  refine so_met [(0, .ref (evA V 3))] (by decide) (Nat.le_of_ble_eq_true rfl) (evCn hL) rfl ?_
  intro X hl hV hn hX hR
  subst hl hV
  unfold f_X6_readTape at h
  refine so_aload_n (pc := 0) hX dX6_readTape_0 0 rfl ?_
  refine so_iconst (v := (0 : Int32)) (pc := 1) hX dX6_readTape_1 (by decide) ?_
  refine so_pI (pc := 2) hX dX6_readTape_2 fl_X6_29 fw_6_4 (ekC hL rfl) rfl rfl ?_
  refine so_aload_n (pc := 5) hX dX6_readTape_5 0 rfl ?_
  refine so_iconst (v := (0 : Int32)) (pc := 6) hX dX6_readTape_6 (by decide) ?_
  refine so_pI (pc := 7) hX dX6_readTape_7 fl_X6_32 fw_6_2 (ekC hL rfl) rfl rfl ?_
  refine so_aload_n (pc := 10) hX dX6_readTape_10 0 rfl ?_
  refine so_iconst (v := (-1 : Int32)) (pc := 11) hX dX6_readTape_11 (by decide) ?_
  refine so_pI (pc := 12) hX dX6_readTape_12 fl_X6_25 fw_6_3 (ekC hL rfl) rfl rfl ?_
  refine so_aload_n (pc := 15) hX dX6_readTape_15 0 rfl ?_
  refine so_iconst (v := (0 : Int32)) (pc := 16) hX dX6_readTape_16 (by decide) ?_
  refine so_iconst (v := (0 : Int32)) (pc := 17) hX dX6_readTape_17 (by decide) ?_
  refine so_iconst (v := (0 : Int32)) (pc := 18) hX dX6_readTape_18 (by decide) ?_
  obtain ⟨r2, μ1, hr, h⟩ := obd h
  refine so_callV (As := [.int (0 : Int32), .int (0 : Int32), .int (0 : Int32)]) (rest := []) (pc := 19) hX dX6_readTape_19 (c_X6_readRowF hL hr) mw_X6_readRow mv_X6_readRow ml_X6_35 (ekC hL rfl) (by decide) rfl rfl rfl rfl (by omega) (by decide) (Nat.le_of_ble_eq_true rfl) ?_
  refine so_if_ne (pc := 22) hX 27 dX6_readTape_22 (by decide) (fun hc3 => ?_) (fun hc3 => ?_)
  · have h := iq hc3 h
    refine so_aload_n (pc := 27) hX dX6_readTape_27 0 rfl ?_
    obtain ⟨r5, μ4, hr, h⟩ := obd h
    refine so_callV (As := []) (rest := []) (pc := 28) hX dX6_readTape_28 (c_X6_nextByte hL hr) mw_X6_nextByte mv_X6_nextByte ml_X6_39 (ekC hL rfl) (by decide) rfl rfl rfl rfl (by omega) (by decide) (Nat.le_of_ble_eq_true rfl) ?_
    refine so_iconst (v := (-1 : Int32)) (pc := 31) hX dX6_readTape_31 (by decide) ?_
    refine so_icmp_eq (pc := 32) hX 45 dX6_readTape_32 (by decide) (fun hc6 => ?_) (fun hc6 => ?_)
    · have h := ip hc6 h
      refine so_aload_n (pc := 45) hX dX6_readTape_45 0 rfl ?_
      refine so_gR (pc := 46) hX 4 dX6_readTape_46 fl_X6_21 (ekC hL rfl) (erC hL rfl) ?_
      refine so_aload_n (pc := 49) hX dX6_readTape_49 0 rfl ?_
      refine so_gI (pc := 50) hX dX6_readTape_50 fl_X6_47 (ekC hL rfl) ?_
      refine so_pI (pc := 53) hX dX6_readTape_53 fl_X6_50 fw_1_1 (ekC hL rfl) rfl rfl ?_
      refine so_aload_n (pc := 56) hX dX6_readTape_56 0 rfl ?_
      refine so_gR (pc := 57) hX 4 dX6_readTape_57 fl_X6_21 (ekC hL rfl) (erC hL rfl) ?_
      refine so_aload_n (pc := 60) hX dX6_readTape_60 0 rfl ?_
      refine so_gI (pc := 61) hX dX6_readTape_61 fl_X6_51 (ekC hL rfl) ?_
      refine so_pI (pc := 64) hX dX6_readTape_64 fl_X6_54 fw_1_2 (ekC hL rfl) rfl rfl ?_
      refine so_iconst (v := (1 : Int32)) (pc := 67) hX dX6_readTape_67 (by decide) ?_
      exact so_iretH (pc := 68) hX hR h (by decide) dX6_readTape_68
    · have h := iq hc6 h
      refine so_aload_n (pc := 35) hX dX6_readTape_35 0 rfl ?_
      refine so_iconst (v := (1 : Int32)) (pc := 36) hX dX6_readTape_36 (by decide) ?_
      refine so_aload_n (pc := 37) hX dX6_readTape_37 0 rfl ?_
      refine so_gI (pc := 38) hX dX6_readTape_38 fl_X6_29 (ekC hL rfl) ?_
      obtain ⟨r8, μ7, hr, h⟩ := obd h
      refine so_callV (As := [.int (1 : Int32), .int (μ4.1 3 4)]) (rest := []) (pc := 41) hX dX6_readTape_41 (c_X6_refuse hL hr) mw_X6_refuse mv_X6_refuse ml_X6_43 (ekC hL rfl) (by decide) rfl rfl rfl rfl (by omega) (by decide) (Nat.le_of_ble_eq_true rfl) ?_
      exact so_zretH (pc := 44) hX hR h dX6_readTape_44
  · have h := ip hc3 h
    refine so_iconst (v := (0 : Int32)) (pc := 25) hX dX6_readTape_25 (by decide) ?_
    exact so_iretH (pc := 26) hX hR h (by decide) dX6_readTape_26
set_option maxHeartbeats 4000000 in
set_option maxRecDepth 100000 in
theorem c_X7_hasRoom {l : Launch} {V : Ev} (hL : V.2.2.2 = lyC)   {μ : Mem} {rZ : Int32} {μZ : Mem} (h : f_X7_hasRoom  μ = some (rZ, μZ)) : CT l V yX7_hasRoom cX7_hasRoom 1 (some .boolean) 0 [.ref (evA V 1)] μ μZ (some (.int rZ)) := by
  refine so_met [(0, .ref (evA V 1))] (by decide) (Nat.le_of_ble_eq_true rfl) (evCn hL) rfl ?_
  intro X hl hV hn hX hR
  subst hl hV
  unfold f_X7_hasRoom at h
  refine so_aload_n (pc := 0) hX dX7_hasRoom_0 0 rfl ?_
  refine so_gI (pc := 1) hX dX7_hasRoom_1 fl_X7_15 (ekC hL rfl) ?_
  refine so_bipush (v := (20 : Int32)) (pc := 4) hX dX7_hasRoom_4 (by decide) ?_
  refine so_iadd (pc := 6) hX dX7_hasRoom_6 ?_
  refine so_sipush (v := (400 : Int32)) (pc := 7) hX dX7_hasRoom_7 (by decide) ?_
  refine so_icmp_gt (pc := 10) hX 17 dX7_hasRoom_10 (by decide) (fun hc1 => ?_) (fun hc1 => ?_)
  · have h := ip hc1 h
    refine so_iconst (v := (0 : Int32)) (pc := 17) hX dX7_hasRoom_17 (by decide) ?_
    exact so_iretH (pc := 18) hX hR h (by decide) dX7_hasRoom_18
  · have h := iq hc1 h
    refine so_iconst (v := (1 : Int32)) (pc := 13) hX dX7_hasRoom_13 (by decide) ?_
    refine so_goto (pc := 14) hX 18 dX7_hasRoom_14 (by decide) ?_
    exact so_iretH (pc := 18) hX hR h (by decide) dX7_hasRoom_18
set_option maxHeartbeats 4000000 in
set_option maxRecDepth 100000 in
theorem g_X7_append_L3 {X : Cx} (hX : Fx X cX7_append RX7 0) (hL : (xV X).2.2.2 = lyC) (hn : xn X = 3) {μZ : Mem} (hR : Rt X none μZ none) {v1 : Int32}  {K : Mem → Option (Mem)} (hK : ∀  (μ : Mem), K μ = some μZ → Gd X 49 [] [] μ) : ∀ (n : Nat) (v2 : Int32) (μ : Mem), f_X7_append_L3 v1 K n v2 μ = some μZ → Gd X 3 [(0, .ref (evA (xV X) 1)), (1, .int v1), (2, .int v2)] [] μ := by
  intro n
  induction n with
  | zero => intro _ _ h; rw [f_X7_append_L3] at h; cases h
  | succ n ih =>
    intro v2 μ h
    rw [f_X7_append_L3] at h
    refine so_iload_n (pc := 3) hX dX7_append_3 2 rfl ?_
    refine so_if_lt (pc := 4) hX 49 dX7_append_4 (by decide) (fun hc1 => ?_) (fun hc1 => ?_)
    · have h := ip hc1 h
      refine so_sub (pc := 49) (lv' := []) [] rfl ?_
      exact hK _ h
    · have h := iq hc1 h
      refine so_aload_n (pc := 7) hX dX7_append_7 0 rfl ?_
      refine so_gI (pc := 8) hX dX7_append_8 fl_X7_15 (ekC hL rfl) ?_
      refine so_sipush (v := (400 : Int32)) (pc := 11) hX dX7_append_11 (by decide) ?_
      refine so_icmp_ge (pc := 14) hX 49 dX7_append_14 (by decide) (fun hc2 => ?_) (fun hc2 => ?_)
      · have h := ip hc2 h
        refine so_sub (pc := 49) (lv' := []) [] rfl ?_
        exact hK _ h
      · have h := iq hc2 h
        refine so_aload_n (pc := 17) hX dX7_append_17 0 rfl ?_
        refine so_gR (pc := 18) hX 2 dX7_append_18 fl_X7_11 (ekC hL rfl) (erC hL rfl) ?_
        refine so_aload_n (pc := 21) hX dX7_append_21 0 rfl ?_
        refine so_gI (pc := 22) hX dX7_append_22 fl_X7_15 (ekC hL rfl) ?_
        refine so_iload_n (pc := 25) hX dX7_append_25 1 rfl ?_
        refine so_iload_n (pc := 26) hX dX7_append_26 2 rfl ?_
        refine so_iushr (pc := 27) hX dX7_append_27 ?_
        refine so_sipush (v := (255 : Int32)) (pc := 28) hX dX7_append_28 (by decide) ?_
        refine so_iand (pc := 31) hX dX7_append_31 ?_
        obtain ⟨μ3, hr, h⟩ := ob h
        refine so_iast (pc := 32) hX dX7_append_32 (ekC hL rfl) (elC hL rfl) hr ?_
        refine so_aload_n (pc := 33) hX dX7_append_33 0 rfl ?_
        refine so_dup (pc := 34) hX dX7_append_34 rfl ?_
        refine so_gI (pc := 35) hX dX7_append_35 fl_X7_15 (ekC hL rfl) ?_
        refine so_iconst (v := (1 : Int32)) (pc := 38) hX dX7_append_38 (by decide) ?_
        refine so_iadd (pc := 39) hX dX7_append_39 ?_
        refine so_pI (pc := 40) hX dX7_append_40 fl_X7_15 fw_7_1 (ekC hL rfl) rfl rfl ?_
        refine so_iinc (pc := 43) hX dX7_append_43 2 (-8 : Int32) [(2, .int (v2 + (-8 : Int32))), (0, .ref (evA (xV X) 1)), (1, .int v1)] rfl (by decide) (by rw [hn]; decide) rfl ?_
        refine so_goto (pc := 46) hX 3 dX7_append_46 (by decide) ?_
        refine so_sub (pc := 3) (lv' := [(0, .ref (evA (xV X) 1)), (1, .int v1), (2, .int (v2 + (-8 : Int32)))]) [1, 2, 0] rfl ?_
        exact ih _ _ h
set_option maxHeartbeats 4000000 in
set_option maxRecDepth 100000 in
theorem c_X7_append {l : Launch} {V : Ev} (hL : V.2.2.2 = lyC) {v1 : Int32}  {μ : Mem} {μZ : Mem} (h : f_X7_append v1 μ = some μZ) : CT l V yX7_append cX7_append 3 none 0 [.ref (evA V 1), .int v1] μ μZ none := by
  refine so_met [(0, .ref (evA V 1)), (1, .int v1)] (by decide) (Nat.le_of_ble_eq_true rfl) (evCn hL) rfl ?_
  intro X hl hV hn hX hR
  subst hl hV
  unfold f_X7_append at h
  refine so_bipush (v := (24 : Int32)) (pc := 0) hX dX7_append_0 (by decide) ?_
  refine so_istore_n (pc := 2) hX dX7_append_2 [(2, .int (24 : Int32)), (0, .ref (evA (xV X) 1)), (1, .int v1)] (by rw [hn]; decide) rfl ?_
  refine so_sub (pc := 3) (lv' := [(0, .ref (evA (xV X) 1)), (1, .int v1), (2, .int (24 : Int32))]) [1, 2, 0] rfl ?_
  refine g_X7_append_L3 hX hL hn hR (fun μ4 h => ?_) FU _ _ h
  exact so_vretH (pc := 49) hX hR h dX7_append_49
