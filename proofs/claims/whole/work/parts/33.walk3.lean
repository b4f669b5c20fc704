set_option maxHeartbeats 4000000 in
set_option maxRecDepth 100000 in
theorem c_X7_shorten {l : Launch} {V : Ev} (hL : V.2.2.2 = lyC) {v1 : Int32}  {μ : Mem} {rZ : Int32} {μZ : Mem} (h : f_X7_shorten v1 μ = some (rZ, μZ)) : CT l V yX7_shorten cX7_shorten 3 (some .boolean) 1 [.ref (evA V 1), .int v1] μ μZ (some (.int rZ)) := by
  refine so_met [(0, .ref (evA V 1)), (1, .int v1)] (by decide) (Nat.le_of_ble_eq_true rfl) (evCn hL) rfl ?_
  intro X hl hV hn hX hR
  subst hl hV
  unfold f_X7_shorten at h
  refine so_iload_n (pc := 0) hX dX7_shorten_0 1 rfl ?_
  refine so_iconst (v := (0 : Int32)) (pc := 1) hX dX7_shorten_1 (by decide) ?_
  refine so_aload_n (pc := 2) hX dX7_shorten_2 0 rfl ?_
  refine so_gI (pc := 3) hX dX7_shorten_3 fl_X7_15 (ekC hL rfl) ?_
  obtain ⟨r2, μ1, hr, h⟩ := obd h
  refine so_callSN (As := [.int v1, .int (0 : Int32), .int (μ.1 1 1)]) (rest := []) (pc := 6) hX dX7_shorten_6 (c_X9_isFrom hL hr) mw_X9_isFrom ms_X9_isFrom ml_X7_19 rfl rfl (by omega) (by decide) (Nat.le_of_ble_eq_true rfl) ?_
  refine so_istore_n (pc := 9) hX dX7_shorten_9 [(2, .int r2), (0, .ref (evA (xV X) 1)), (1, .int v1)] (by rw [hn]; decide) rfl ?_
  refine so_iload_n (pc := 10) hX dX7_shorten_10 0 rfl ?_
  refine so_if_eq (pc := 11) hX 19 dX7_shorten_11 (by decide) (fun hc3 => ?_) (fun hc3 => ?_)
  · have h := ip hc3 h
    refine so_iload_n (pc := 19) hX dX7_shorten_19 0 rfl ?_
    exact so_zretH (pc := 20) hX hR h dX7_shorten_20
  · have h := iq hc3 h
    refine so_aload_n (pc := 14) hX dX7_shorten_14 1 rfl ?_
    refine so_iload_n (pc := 15) hX dX7_shorten_15 2 rfl ?_
    refine so_pI (pc := 16) hX dX7_shorten_16 fl_X7_15 fw_7_1 (ekC hL rfl) rfl rfl ?_
    refine so_iload_n (pc := 19) hX dX7_shorten_19 0 rfl ?_
    exact so_zretH (pc := 20) hX hR h dX7_shorten_20
set_option maxHeartbeats 4000000 in
set_option maxRecDepth 100000 in
theorem c_X8_doorAt {l : Launch} {V : Ev} (hL : V.2.2.2 = lyC) {v1 : Int32}  {μ : Mem} {rZ : Option Nat} {μZ : Mem} (h : f_X8_doorAt v1 μ = some (rZ, μZ)) : CT l V yX8_doorAt cX8_doorAt 2 (some (.object RX0)) 1 [.ref (evA V 6), .int v1] μ μZ (some (vr V rZ)) := by
  refine so_met [(0, .ref (evA V 6)), (1, .int v1)] (by decide) (Nat.le_of_ble_eq_true rfl) (evCn hL) rfl ?_
  intro X hl hV hn hX hR
  subst hl hV
  unfold f_X8_doorAt at h
  refine so_iload_n (pc := 0) hX dX8_doorAt_0 1 rfl ?_
  refine so_iconst (v := (0 : Int32)) (pc := 1) hX dX8_doorAt_1 (by decide) ?_
  refine so_bipush (v := (7 : Int32)) (pc := 2) hX dX8_doorAt_2 (by decide) ?_
  obtain ⟨r2, μ1, hr, h⟩ := obd h
  refine so_callSN (As := [.int v1, .int (0 : Int32), .int (7 : Int32)]) (rest := []) (pc := 4) hX dX8_doorAt_4 (c_X9_isFrom hL hr) mw_X9_isFrom ms_X9_isFrom ml_X8_32 rfl rfl (by omega) (by decide) (Nat.le_of_ble_eq_true rfl) ?_
  refine so_if_eq (pc := 7) hX 31 dX8_doorAt_7 (by decide) (fun hc3 => ?_) (fun hc3 => ?_)
  · have h := ip hc3 h
    refine so_null (pc := 31) hX dX8_doorAt_31 ?_
    exact so_aretN (pc := 32) hX hR h dX8_doorAt_32
  · have h := iq hc3 h
    refine so_aload_n (pc := 10) hX dX8_doorAt_10 0 rfl ?_
    refine so_gR (pc := 11) hX 8 dX8_doorAt_11 fl_X8_19 (ekC hL rfl) (erC hL rfl) ?_
    refine so_iload_n (pc := 14) hX dX8_doorAt_14 1 rfl ?_
    obtain ⟨j4, hj5, h⟩ := ob h
    refine so_aald (t0 := 2) (b := (56 + 4 * j4)) (pc := 15) hX dX8_doorAt_15 (ekC hL rfl) (by decide) (by decide) (elC hL rfl) rfl hj5 (erC hL rfl) ?_
    refine so_gI (pc := 16) hX dX8_doorAt_16 fl_X8_40 (ekC hL (kE13 (rR_lt hj5))) ?_
    refine so_if_eq (pc := 19) hX 31 dX8_doorAt_19 (by decide) (fun hc6 => ?_) (fun hc6 => ?_)
    · have h := ip hc6 h
      refine so_null (pc := 31) hX dX8_doorAt_31 ?_
      exact so_aretN (pc := 32) hX hR h dX8_doorAt_32
    · have h := iq hc6 h
      refine so_aload_n (pc := 22) hX dX8_doorAt_22 0 rfl ?_
      refine so_gR (pc := 23) hX 8 dX8_doorAt_23 fl_X8_19 (ekC hL rfl) (erC hL rfl) ?_
      refine so_iload_n (pc := 26) hX dX8_doorAt_26 1 rfl ?_
      obtain ⟨j7, hj8, h⟩ := ob h
      refine so_aald (t0 := 2) (b := (56 + 4 * j7)) (pc := 27) hX dX8_doorAt_27 (ekC hL rfl) (by decide) (by decide) (elC hL rfl) rfl hj8 (erC hL rfl) ?_
      refine so_goto (pc := 28) hX 32 dX8_doorAt_28 (by decide) ?_
      exact so_aretS (pc := 32) hX hR h dX8_doorAt_32
theorem kr_X8_doorAt {v : Int32} {μ μ2 : Mem} {a : Nat} (h : f_X8_doorAt v μ = some (some a, μ2)) : kdC a = 0 := by
  unfold f_X8_doorAt at h
  obtain ⟨r, m1, _, h⟩ := obd h
  by_cases h1 : r = 0
  · have h := ip h1 h; cases h
  · have h := iq h1 h
    obtain ⟨j, _, h⟩ := ob h
    split at h
    · cases h
    · obtain ⟨j2, hj2, h⟩ := ob h
      cases h
      exact kE13 (rR_lt hj2)
set_option maxHeartbeats 4000000 in
set_option maxRecDepth 100000 in
theorem g_X8_forgetMadeOf_L2 {X : Cx} (hX : Fx X cX8_forgetMadeOf RX8 1) (hL : (xV X).2.2.2 = lyC) (hn : xn X = 3) {μZ : Mem} (hR : Rt X none μZ none) {v1 : Int32}  {K : Mem → Option (Mem)} (hK : ∀  (μ : Mem), K μ = some μZ → Gd X 36 [] [] μ) : ∀ (n : Nat) (v2 : Int32) (μ : Mem), f_X8_forgetMadeOf_L2 v1 K n v2 μ = some μZ → Gd X 2 [(0, .ref (evA (xV X) 6)), (1, .int v1), (2, .int v2)] [] μ := by
  intro n
  induction n with
  | zero => intro _ _ h; rw [f_X8_forgetMadeOf_L2] at h; cases h
  | succ n ih =>
    intro v2 μ h
    rw [f_X8_forgetMadeOf_L2] at h
    refine so_iload_n (pc := 2) hX dX8_forgetMadeOf_2 2 rfl ?_
    refine so_bipush (v := (8 : Int32)) (pc := 3) hX dX8_forgetMadeOf_3 (by decide) ?_
    refine so_icmp_ge (pc := 5) hX 36 dX8_forgetMadeOf_5 (by decide) (fun hc1 => ?_) (fun hc1 => ?_)
    · have h := ip hc1 h
      refine so_sub (pc := 36) (lv' := []) [] rfl ?_
      exact hK _ h
    · have h := iq hc1 h
      refine so_aload_n (pc := 8) hX dX8_forgetMadeOf_8 0 rfl ?_
      refine so_gR (pc := 9) hX 8 dX8_forgetMadeOf_9 fl_X8_19 (ekC hL rfl) (erC hL rfl) ?_
      refine so_iload_n (pc := 12) hX dX8_forgetMadeOf_12 2 rfl ?_
      obtain ⟨j2, hj3, h⟩ := ob h
      refine so_aald (t0 := 2) (b := (56 + 4 * j2)) (pc := 13) hX dX8_forgetMadeOf_13 (ekC hL rfl) (by decide) (by decide) (elC hL rfl) rfl hj3 (erC hL rfl) ?_
      refine so_gI (pc := 14) hX dX8_forgetMadeOf_14 fl_X8_41 (ekC hL (kE13 (rR_lt hj3))) ?_
      refine so_iload_n (pc := 17) hX dX8_forgetMadeOf_17 1 rfl ?_
      refine so_icmp_ne (pc := 18) hX 30 dX8_forgetMadeOf_18 (by decide) (fun hc4 => ?_) (fun hc4 => ?_)
      · have h := iq hc4 h
        refine so_iinc (pc := 30) hX dX8_forgetMadeOf_30 2 (1 : Int32) [(2, .int (v2 + (1 : Int32))), (0, .ref (evA (xV X) 6)), (1, .int v1)] rfl (by decide) (by rw [hn]; decide) rfl ?_
        refine so_goto (pc := 33) hX 2 dX8_forgetMadeOf_33 (by decide) ?_
        refine so_sub (pc := 2) (lv' := [(0, .ref (evA (xV X) 6)), (1, .int v1), (2, .int (v2 + (1 : Int32)))]) [1, 2, 0] rfl ?_
        exact ih _ _ h
      · have h := ip hc4 h
        refine so_aload_n (pc := 21) hX dX8_forgetMadeOf_21 0 rfl ?_
        refine so_gR (pc := 22) hX 8 dX8_forgetMadeOf_22 fl_X8_19 (ekC hL rfl) (erC hL rfl) ?_
        refine so_iload_n (pc := 25) hX dX8_forgetMadeOf_25 2 rfl ?_
        obtain ⟨j5, hj6, h⟩ := ob h
        refine so_aald (t0 := 2) (b := (56 + 4 * j5)) (pc := 26) hX dX8_forgetMadeOf_26 (ekC hL rfl) (by decide) (by decide) (elC hL rfl) rfl hj6 (erC hL rfl) ?_
        obtain ⟨μ7, hr, h⟩ := ob h
        refine so_callV (As := []) (rest := []) (pc := 27) hX dX8_forgetMadeOf_27 (c_X0_notMade hL (kE13 (rR_lt hj6)) hr) mw_X0_notMade mv_X0_notMade ml_X8_45 (ekC hL (kE13 (rR_lt hj6))) (by decide) rfl rfl rfl rfl (by omega) (by decide) (Nat.le_of_ble_eq_true rfl) ?_
        refine so_iinc (pc := 30) hX dX8_forgetMadeOf_30 2 (1 : Int32) [(2, .int (v2 + (1 : Int32))), (0, .ref (evA (xV X) 6)), (1, .int v1)] rfl (by decide) (by rw [hn]; decide) rfl ?_
        refine so_goto (pc := 33) hX 2 dX8_forgetMadeOf_33 (by decide) ?_
        refine so_sub (pc := 2) (lv' := [(0, .ref (evA (xV X) 6)), (1, .int v1), (2, .int (v2 + (1 : Int32)))]) [1, 2, 0] rfl ?_
        exact ih _ _ h
set_option maxHeartbeats 4000000 in
set_option maxRecDepth 100000 in
theorem c_X8_forgetMadeOf {l : Launch} {V : Ev} (hL : V.2.2.2 = lyC) {v1 : Int32}  {μ : Mem} {μZ : Mem} (h : f_X8_forgetMadeOf v1 μ = some μZ) : CT l V yX8_forgetMadeOf cX8_forgetMadeOf 3 none 1 [.ref (evA V 6), .int v1] μ μZ none := by
  refine so_met [(0, .ref (evA V 6)), (1, .int v1)] (by decide) (Nat.le_of_ble_eq_true rfl) (evCn hL) rfl ?_
  intro X hl hV hn hX hR
  subst hl hV
  unfold f_X8_forgetMadeOf at h
  refine so_iconst (v := (0 : Int32)) (pc := 0) hX dX8_forgetMadeOf_0 (by decide) ?_
  refine so_istore_n (pc := 1) hX dX8_forgetMadeOf_1 [(2, .int (0 : Int32)), (0, .ref (evA (xV X) 6)), (1, .int v1)] (by rw [hn]; decide) rfl ?_
  refine so_sub (pc := 2) (lv' := [(0, .ref (evA (xV X) 6)), (1, .int v1), (2, .int (0 : Int32))]) [1, 2, 0] rfl ?_
  refine g_X8_forgetMadeOf_L2 hX hL hn hR (fun μ8 h => ?_) FU _ _ h
  exact so_vretH (pc := 36) hX hR h dX8_forgetMadeOf_36
set_option maxHeartbeats 4000000 in
set_option maxRecDepth 100000 in
theorem c_X9_feed {l : Launch} {V : Ev} (hL : V.2.2.2 = lyC) {v1 : Int32} {v2 : Int32} {v3 : Int32} {v4 : Int32} {v5 : Int32}  {μ : Mem} {rZ : Int32} {μZ : Mem} (h : f_X9_feed v1 v2 v3 v4 v5 μ = some (rZ, μZ)) : CT l V yX9_feed cX9_feed 6 (some .int) 1 [.ref (evA V 0), .int v1, .int v2, .int v3, .int v4, .int v5] μ μZ (some (.int rZ)) := by
  refine so_met [(0, .ref (evA V 0)), (1, .int v1), (2, .int v2), (3, .int v3), (4, .int v4), (5, .int v5)] (by decide) (Nat.le_of_ble_eq_true rfl) (evCn hL) rfl ?_
  intro X hl hV hn hX hR
  subst hl hV
  unfold f_X9_feed at h
  refine so_aload_n (pc := 0) hX dX9_feed_0 0 rfl ?_
  refine so_gR (pc := 1) hX 1 dX9_feed_1 fl_X9_20 (ekC hL rfl) (erC hL rfl) ?_
  obtain ⟨r2, μ1, hr, h⟩ := obd h
  refine so_callV (As := []) (rest := []) (pc := 4) hX dX9_feed_4 (c_X7_hasRoom hL hr) mw_X7_hasRoom mv_X7_hasRoom ml_X9_33 (ekC hL rfl) (by decide) rfl rfl rfl rfl (by omega) (by decide) (Nat.le_of_ble_eq_true rfl) ?_
  refine so_if_ne (pc := 7) hX 12 dX9_feed_7 (by decide) (fun hc3 => ?_) (fun hc3 => ?_)
  · have h := iq hc3 h
    refine so_aload_n (pc := 12) hX dX9_feed_12 0 rfl ?_
    refine so_gR (pc := 13) hX 1 dX9_feed_13 fl_X9_20 (ekC hL rfl) (erC hL rfl) ?_
    refine so_iload_n (pc := 16) hX dX9_feed_16 1 rfl ?_
    obtain ⟨μ4, hr, h⟩ := ob h
    refine so_callV (As := [.int v1]) (rest := []) (pc := 17) hX dX9_feed_17 (c_X7_append hL hr) mw_X7_append mv_X7_append ml_X9_39 (ekC hL rfl) (by decide) rfl rfl rfl rfl (by omega) (by decide) (Nat.le_of_ble_eq_true rfl) ?_
    refine so_aload_n (pc := 20) hX dX9_feed_20 0 rfl ?_
    refine so_gR (pc := 21) hX 1 dX9_feed_21 fl_X9_20 (ekC hL rfl) (erC hL rfl) ?_
    refine so_iload_n (pc := 24) hX dX9_feed_24 2 rfl ?_
    obtain ⟨μ5, hr, h⟩ := ob h
    refine so_callV (As := [.int v2]) (rest := []) (pc := 25) hX dX9_feed_25 (c_X7_append hL hr) mw_X7_append mv_X7_append ml_X9_39 (ekC hL rfl) (by decide) rfl rfl rfl rfl (by omega) (by decide) (Nat.le_of_ble_eq_true rfl) ?_
    refine so_aload_n (pc := 28) hX dX9_feed_28 0 rfl ?_
    refine so_gR (pc := 29) hX 1 dX9_feed_29 fl_X9_20 (ekC hL rfl) (erC hL rfl) ?_
    refine so_iload_n (pc := 32) hX dX9_feed_32 3 rfl ?_
    obtain ⟨μ6, hr, h⟩ := ob h
    refine so_callV (As := [.int v3]) (rest := []) (pc := 33) hX dX9_feed_33 (c_X7_append hL hr) mw_X7_append mv_X7_append ml_X9_39 (ekC hL rfl) (by decide) rfl rfl rfl rfl (by omega) (by decide) (Nat.le_of_ble_eq_true rfl) ?_
    refine so_aload_n (pc := 36) hX dX9_feed_36 0 rfl ?_
    refine so_gR (pc := 37) hX 1 dX9_feed_37 fl_X9_20 (ekC hL rfl) (erC hL rfl) ?_
    refine so_iload (pc := 40) hX dX9_feed_40 4 rfl ?_
    obtain ⟨μ7, hr, h⟩ := ob h
    refine so_callV (As := [.int v4]) (rest := []) (pc := 42) hX dX9_feed_42 (c_X7_append hL hr) mw_X7_append mv_X7_append ml_X9_39 (ekC hL rfl) (by decide) rfl rfl rfl rfl (by omega) (by decide) (Nat.le_of_ble_eq_true rfl) ?_
    refine so_aload_n (pc := 45) hX dX9_feed_45 0 rfl ?_
    refine so_gR (pc := 46) hX 1 dX9_feed_46 fl_X9_20 (ekC hL rfl) (erC hL rfl) ?_
    refine so_iload (pc := 49) hX dX9_feed_49 5 rfl ?_
    obtain ⟨μ8, hr, h⟩ := ob h
    refine so_callV (As := [.int v5]) (rest := []) (pc := 51) hX dX9_feed_51 (c_X7_append hL hr) mw_X7_append mv_X7_append ml_X9_39 (ekC hL rfl) (by decide) rfl rfl rfl rfl (by omega) (by decide) (Nat.le_of_ble_eq_true rfl) ?_
    refine so_aload_n (pc := 54) hX dX9_feed_54 0 rfl ?_
    refine so_gR (pc := 55) hX 1 dX9_feed_55 fl_X9_20 (ekC hL rfl) (erC hL rfl) ?_
    refine so_gI (pc := 58) hX dX9_feed_58 fl_X9_43 (ekC hL rfl) ?_
    exact so_iretH (pc := 61) hX hR h rfl dX9_feed_61
  · have h := ip hc3 h
    refine so_iconst (v := (-1 : Int32)) (pc := 10) hX dX9_feed_10 (by decide) ?_
    exact so_iretH (pc := 11) hX hR h rfl dX9_feed_11
set_option maxHeartbeats 4000000 in
set_option maxRecDepth 100000 in
theorem c_X9_end {l : Launch} {V : Ev} (hL : V.2.2.2 = lyC) {v1 : Int32}  {μ : Mem} {rZ : Int32} {μZ : Mem} (h : f_X9_end v1 μ = some (rZ, μZ)) : CT l V yX9_end cX9_end 2 (some .boolean) 2 [.ref (evA V 0), .int v1] μ μZ (some (.int rZ)) := by
  refine so_met [(0, .ref (evA V 0)), (1, .int v1)] (by decide) (Nat.le_of_ble_eq_true rfl) (evCn hL) rfl ?_
  intro X hl hV hn hX hR
  subst hl hV
  unfold f_X9_end at h
  refine so_aload_n (pc := 0) hX dX9_end_0 0 rfl ?_
  refine so_gR (pc := 1) hX 1 dX9_end_1 fl_X9_20 (ekC hL rfl) (erC hL rfl) ?_
  refine so_iload_n (pc := 4) hX dX9_end_4 1 rfl ?_
  obtain ⟨r2, μ1, hr, h⟩ := obd h
  refine so_callV (As := [.int v1]) (rest := []) (pc := 5) hX dX9_end_5 (c_X7_shorten hL hr) mw_X7_shorten mv_X7_shorten ml_X9_47 (ekC hL rfl) (by decide) rfl rfl rfl rfl (by omega) (by decide) (Nat.le_of_ble_eq_true rfl) ?_
  exact so_zretH (pc := 8) hX hR h dX9_end_8
set_option maxHeartbeats 4000000 in
set_option maxRecDepth 100000 in
theorem c_X9_log {l : Launch} {V : Ev} (hL : V.2.2.2 = lyC) {v1 : Int32} {v2 : Int32} {v3 : Int32} {v4 : Int32} {v5 : Int32}  {μ : Mem} {rZ : Int32} {μZ : Mem} (h : f_X9_log v1 v2 v3 v4 v5 μ = some (rZ, μZ)) : CT l V yX9_log cX9_log 7 (some .boolean) 2 [.ref (evA V 0), .int v1, .int v2, .int v3, .int v4, .int v5] μ μZ (some (.int rZ)) := by
  refine so_met [(0, .ref (evA V 0)), (1, .int v1), (2, .int v2), (3, .int v3), (4, .int v4), (5, .int v5)] (by decide) (Nat.le_of_ble_eq_true rfl) (evCn hL) rfl ?_
  intro X hl hV hn hX hR
  subst hl hV
  unfold f_X9_log at h
  refine so_iload_n (pc := 0) hX dX9_log_0 1 rfl ?_
  refine so_iconst (v := (0 : Int32)) (pc := 1) hX dX9_log_1 (by decide) ?_
  refine so_iconst (v := (2 : Int32)) (pc := 2) hX dX9_log_2 (by decide) ?_
  obtain ⟨r2, μ1, hr, h⟩ := obd h
  refine so_callS (As := [.int v1, .int (0 : Int32), .int (2 : Int32)]) (rest := []) (pc := 3) hX dX9_log_3 (c_X9_isFrom hL hr) mw_X9_isFrom ms_X9_isFrom ml_X9_51 rfl rfl (by omega) (by decide) (Nat.le_of_ble_eq_true rfl) ?_
  refine so_if_eq (pc := 6) hX 57 dX9_log_6 (by decide) (fun hc3 => ?_) (fun hc3 => ?_)
  · have h := ip hc3 h
    refine so_iconst (v := (0 : Int32)) (pc := 57) hX dX9_log_57 (by decide) ?_
    refine so_istore (pc := 58) hX dX9_log_58 [(6, .int (0 : Int32)), (0, .ref (evA (xV X) 0)), (1, .int v1), (2, .int v2), (3, .int v3), (4, .int v4), (5, .int v5)] (by rw [hn]; decide) rfl ?_
    refine so_iload (pc := 60) hX dX9_log_60 0 rfl ?_
    refine so_if_ne (pc := 62) hX 67 dX9_log_62 (by decide) (fun hz => absurd hz (by decide)) (fun _ => ?_)
    refine so_iconst (v := (0 : Int32)) (pc := 65) hX dX9_log_65 (by decide) ?_
    exact so_iretH (pc := 66) hX hR h (by decide) dX9_log_66
  · have h := iq hc3 h
    refine so_iload_n (pc := 9) hX dX9_log_9 2 rfl ?_
    refine so_iconst (v := (1 : Int32)) (pc := 10) hX dX9_log_10 (by decide) ?_
    refine so_bipush (v := (12 : Int32)) (pc := 11) hX dX9_log_11 (by decide) ?_
    obtain ⟨r5, μ4, hr, h⟩ := obd h
    refine so_callS (As := [.int v2, .int (1 : Int32), .int (12 : Int32)]) (rest := []) (pc := 13) hX dX9_log_13 (c_X9_isFrom hL hr) mw_X9_isFrom ms_X9_isFrom ml_X9_51 rfl rfl (by omega) (by decide) (Nat.le_of_ble_eq_true rfl) ?_
    refine so_if_eq (pc := 16) hX 57 dX9_log_16 (by decide) (fun hc6 => ?_) (fun hc6 => ?_)
    · have h := ip hc6 h
      refine so_iconst (v := (0 : Int32)) (pc := 57) hX dX9_log_57 (by decide) ?_
      refine so_istore (pc := 58) hX dX9_log_58 [(6, .int (0 : Int32)), (0, .ref (evA (xV X) 0)), (1, .int v1), (2, .int v2), (3, .int v3), (4, .int v4), (5, .int v5)] (by rw [hn]; decide) rfl ?_
      refine so_iload (pc := 60) hX dX9_log_60 0 rfl ?_
      refine so_if_ne (pc := 62) hX 67 dX9_log_62 (by decide) (fun hz => absurd hz (by decide)) (fun _ => ?_)
      refine so_iconst (v := (0 : Int32)) (pc := 65) hX dX9_log_65 (by decide) ?_
      exact so_iretH (pc := 66) hX hR h (by decide) dX9_log_66
    · have h := iq hc6 h
      refine so_iload_n (pc := 19) hX dX9_log_19 3 rfl ?_
      refine so_bipush (v := (10 : Int32)) (pc := 20) hX dX9_log_20 (by decide) ?_
      refine so_bipush (v := (60 : Int32)) (pc := 22) hX dX9_log_22 (by decide) ?_
      obtain ⟨r8, μ7, hr, h⟩ := obd h
      refine so_callS (As := [.int v3, .int (10 : Int32), .int (60 : Int32)]) (rest := []) (pc := 24) hX dX9_log_24 (c_X9_isFrom hL hr) mw_X9_isFrom ms_X9_isFrom ml_X9_51 rfl rfl (by omega) (by decide) (Nat.le_of_ble_eq_true rfl) ?_
      refine so_if_eq (pc := 27) hX 57 dX9_log_27 (by decide) (fun hc9 => ?_) (fun hc9 => ?_)
      · have h := ip hc9 h
        refine so_iconst (v := (0 : Int32)) (pc := 57) hX dX9_log_57 (by decide) ?_
        refine so_istore (pc := 58) hX dX9_log_58 [(6, .int (0 : Int32)), (0, .ref (evA (xV X) 0)), (1, .int v1), (2, .int v2), (3, .int v3), (4, .int v4), (5, .int v5)] (by rw [hn]; decide) rfl ?_
        refine so_iload (pc := 60) hX dX9_log_60 0 rfl ?_
        refine so_if_ne (pc := 62) hX 67 dX9_log_62 (by decide) (fun hz => absurd hz (by decide)) (fun _ => ?_)
        refine so_iconst (v := (0 : Int32)) (pc := 65) hX dX9_log_65 (by decide) ?_
        exact so_iretH (pc := 66) hX hR h (by decide) dX9_log_66
      · have h := iq hc9 h
        refine so_iload (pc := 30) hX dX9_log_30 4 rfl ?_
        refine so_bipush (v := (10 : Int32)) (pc := 32) hX dX9_log_32 (by decide) ?_
        refine so_bipush (v := (40 : Int32)) (pc := 34) hX dX9_log_34 (by decide) ?_
        obtain ⟨r11, μ10, hr, h⟩ := obd h
        refine so_callS (As := [.int v4, .int (10 : Int32), .int (40 : Int32)]) (rest := []) (pc := 36) hX dX9_log_36 (c_X9_isFrom hL hr) mw_X9_isFrom ms_X9_isFrom ml_X9_51 rfl rfl (by omega) (by decide) (Nat.le_of_ble_eq_true rfl) ?_
        refine so_if_eq (pc := 39) hX 57 dX9_log_39 (by decide) (fun hc12 => ?_) (fun hc12 => ?_)
        · have h := ip hc12 h
          refine so_iconst (v := (0 : Int32)) (pc := 57) hX dX9_log_57 (by decide) ?_
          refine so_istore (pc := 58) hX dX9_log_58 [(6, .int (0 : Int32)), (0, .ref (evA (xV X) 0)), (1, .int v1), (2, .int v2), (3, .int v3), (4, .int v4), (5, .int v5)] (by rw [hn]; decide) rfl ?_
          refine so_iload (pc := 60) hX dX9_log_60 0 rfl ?_
          refine so_if_ne (pc := 62) hX 67 dX9_log_62 (by decide) (fun hz => absurd hz (by decide)) (fun _ => ?_)
          refine so_iconst (v := (0 : Int32)) (pc := 65) hX dX9_log_65 (by decide) ?_
          exact so_iretH (pc := 66) hX hR h (by decide) dX9_log_66
        · have h := iq hc12 h
          refine so_iload (pc := 42) hX dX9_log_42 5 rfl ?_
          refine so_bipush (v := (-2 : Int32)) (pc := 44) hX dX9_log_44 (by decide) ?_
          refine so_iconst (v := (2 : Int32)) (pc := 46) hX dX9_log_46 (by decide) ?_
          obtain ⟨r14, μ13, hr, h⟩ := obd h
          refine so_callS (As := [.int v5, .int (-2 : Int32), .int (2 : Int32)]) (rest := []) (pc := 47) hX dX9_log_47 (c_X9_isFrom hL hr) mw_X9_isFrom ms_X9_isFrom ml_X9_51 rfl rfl (by omega) (by decide) (Nat.le_of_ble_eq_true rfl) ?_
          refine so_if_eq (pc := 50) hX 57 dX9_log_50 (by decide) (fun hc15 => ?_) (fun hc15 => ?_)
          · have h := ip hc15 h
            refine so_iconst (v := (0 : Int32)) (pc := 57) hX dX9_log_57 (by decide) ?_
            refine so_istore (pc := 58) hX dX9_log_58 [(6, .int (0 : Int32)), (0, .ref (evA (xV X) 0)), (1, .int v1), (2, .int v2), (3, .int v3), (4, .int v4), (5, .int v5)] (by rw [hn]; decide) rfl ?_
            refine so_iload (pc := 60) hX dX9_log_60 0 rfl ?_
            refine so_if_ne (pc := 62) hX 67 dX9_log_62 (by decide) (fun hz => absurd hz (by decide)) (fun _ => ?_)
            refine so_iconst (v := (0 : Int32)) (pc := 65) hX dX9_log_65 (by decide) ?_
            exact so_iretH (pc := 66) hX hR h (by decide) dX9_log_66
          · have h := iq hc15 h
            refine so_iconst (v := (1 : Int32)) (pc := 53) hX dX9_log_53 (by decide) ?_
            refine so_goto (pc := 54) hX 58 dX9_log_54 (by decide) ?_
            refine so_istore (pc := 58) hX dX9_log_58 [(6, .int (1 : Int32)), (0, .ref (evA (xV X) 0)), (1, .int v1), (2, .int v2), (3, .int v3), (4, .int v4), (5, .int v5)] (by rw [hn]; decide) rfl ?_
            refine so_iload (pc := 60) hX dX9_log_60 0 rfl ?_
            refine so_if_ne (pc := 62) hX 67 dX9_log_62 (by decide) (fun _ => ?_) (fun hz => absurd hz (by decide))
            refine so_aload_n (pc := 67) hX dX9_log_67 1 rfl ?_
            refine so_gR (pc := 68) hX 6 dX9_log_68 fl_X9_32 (ekC hL rfl) (erC hL rfl) ?_
            refine so_gR (pc := 71) hX 7 dX9_log_71 fl_X9_55 (ekC hL rfl) (erC hL rfl) ?_
            refine so_iload_n (pc := 74) hX dX9_log_74 2 rfl ?_
            obtain ⟨j16, hj17, h⟩ := ob h
            refine so_aald (t0 := 4) (b := (11 + 15 * j16)) (pc := 75) hX dX9_log_75 (ekC hL rfl) (by decide) (by decide) (elC hL rfl) rfl hj17 (erC hL rfl) ?_
            refine so_iload_n (pc := 76) hX dX9_log_76 3 rfl ?_
            refine so_iload_n (pc := 77) hX dX9_log_77 4 rfl ?_
            refine so_iload (pc := 78) hX dX9_log_78 5 rfl ?_
            refine so_iload (pc := 80) hX dX9_log_80 6 rfl ?_
            obtain ⟨μ18, hr, h⟩ := ob h
            refine so_callV (As := [.int v2, .int v3, .int v4, .int v5]) (rest := []) (pc := 82) hX dX9_log_82 (c_X4_begin hL (kE15 (rR_lt hj17)) hr) mw_X4_begin mv_X4_begin ml_X9_61 (ekC hL (kE15 (rR_lt hj17))) (by decide) rfl rfl rfl rfl (by omega) (by decide) (Nat.le_of_ble_eq_true rfl) ?_
            refine so_aload_n (pc := 85) hX dX9_log_85 1 rfl ?_
            refine so_gR (pc := 86) hX 6 dX9_log_86 fl_X9_32 (ekC hL rfl) (erC hL rfl) ?_
            refine so_iload_n (pc := 89) hX dX9_log_89 2 rfl ?_
            obtain ⟨μ19, hr, h⟩ := ob h
            refine so_callV (As := [.int v1]) (rest := []) (pc := 90) hX dX9_log_90 (c_X8_forgetMadeOf hL hr) mw_X8_forgetMadeOf mv_X8_forgetMadeOf ml_X9_67 (ekC hL rfl) (by decide) rfl rfl rfl rfl (by omega) (by decide) (Nat.le_of_ble_eq_true rfl) ?_
            refine so_iconst (v := (1 : Int32)) (pc := 93) hX dX9_log_93 (by decide) ?_
            exact so_iretH (pc := 94) hX hR h (by decide) dX9_log_94
set_option maxHeartbeats 4000000 in
set_option maxRecDepth 100000 in
theorem c_X9_tone {l : Launch} {V : Ev} (hL : V.2.2.2 = lyC) {v1 : Int32} {v2 : Int32} {v3 : Int32}  {μ : Mem} {rZ : Int32} {μZ : Mem} (h : f_X9_tone v1 v2 v3 μ = some (rZ, μZ)) : CT l V yX9_tone cX9_tone 5 (some .boolean) 2 [.ref (evA V 0), .int v1, .int v2, .int v3] μ μZ (some (.int rZ)) := by
  refine so_met [(0, .ref (evA V 0)), (1, .int v1), (2, .int v2), (3, .int v3)] (by decide) (Nat.le_of_ble_eq_true rfl) (evCn hL) rfl ?_
  intro X hl hV hn hX hR
  subst hl hV
  unfold f_X9_tone at h
  refine so_aload_n (pc := 0) hX dX9_tone_0 0 rfl ?_
  refine so_gR (pc := 1) hX 6 dX9_tone_1 fl_X9_32 (ekC hL rfl) (erC hL rfl) ?_
  refine so_iload_n (pc := 4) hX dX9_tone_4 1 rfl ?_
  obtain ⟨o2, μ1, hr, h⟩ := obd h
  refine so_callV (As := [.int v1]) (rest := []) (pc := 5) hX dX9_tone_5 (c_X8_logAt hL hr) mw_X8_logAt mv_X8_logAt ml_X9_70 (ekC hL rfl) (by decide) rfl rfl rfl rfl (by omega) (by decide) (Nat.le_of_ble_eq_true rfl) ?_
  cases o2 with
  | none =>
    have h := oc_n h
    refine so_astoreN (pc := 8) hX dX9_tone_8 [(4, .null), (0, .ref (evA (xV X) 0)), (1, .int v1), (2, .int v2), (3, .int v3)] (by rw [hn]; decide) rfl ?_
    refine so_aloadN (pc := 10) hX dX9_tone_10 0 rfl ?_
    refine so_ifnullN (pc := 12) hX 25 dX9_tone_12 (by decide) ?_
    refine so_iconst (v := (0 : Int32)) (pc := 25) hX dX9_tone_25 (by decide) ?_
    exact so_iretH (pc := 26) hX hR h (by decide) dX9_tone_26
  | some a3 =>
    have h := oc_s h
    have ha4 := kr_X8_logAt hr
    refine so_astore (pc := 8) hX dX9_tone_8 [(4, .ref (evA (xV X) a3)), (0, .ref (evA (xV X) 0)), (1, .int v1), (2, .int v2), (3, .int v3)] (by rw [hn]; decide) rfl ?_
    refine so_aload (pc := 10) hX dX9_tone_10 0 rfl ?_
    refine so_ifnull (pc := 12) hX dX9_tone_12 ?_
    refine so_iload_n (pc := 15) hX dX9_tone_15 3 rfl ?_
    refine so_iconst (v := (0 : Int32)) (pc := 16) hX dX9_tone_16 (by decide) ?_
    refine so_bipush (v := (100 : Int32)) (pc := 17) hX dX9_tone_17 (by decide) ?_
    obtain ⟨r6, μ5, hr, h⟩ := obd h
    refine so_callS (As := [.int v2, .int (0 : Int32), .int (100 : Int32)]) (rest := []) (pc := 19) hX dX9_tone_19 (c_X9_isFrom hL hr) mw_X9_isFrom ms_X9_isFrom ml_X9_51 rfl rfl (by omega) (by decide) (Nat.le_of_ble_eq_true rfl) ?_
    refine so_if_ne (pc := 22) hX 27 dX9_tone_22 (by decide) (fun hc7 => ?_) (fun hc7 => ?_)
    · have h := iq hc7 h
      refine so_iload_n (pc := 27) hX dX9_tone_27 4 rfl ?_
      refine so_bipush (v := (-5 : Int32)) (pc := 28) hX dX9_tone_28 (by decide) ?_
      refine so_iconst (v := (5 : Int32)) (pc := 30) hX dX9_tone_30 (by decide) ?_
      obtain ⟨r9, μ8, hr, h⟩ := obd h
      refine so_callS (As := [.int v3, .int (-5 : Int32), .int (5 : Int32)]) (rest := []) (pc := 31) hX dX9_tone_31 (c_X9_isFrom hL hr) mw_X9_isFrom ms_X9_isFrom ml_X9_51 rfl rfl (by omega) (by decide) (Nat.le_of_ble_eq_true rfl) ?_
      refine so_if_ne (pc := 34) hX 39 dX9_tone_34 (by decide) (fun hc10 => ?_) (fun hc10 => ?_)
      · have h := iq hc10 h
        refine so_aload (pc := 39) hX dX9_tone_39 0 rfl ?_
        refine so_iload_n (pc := 41) hX dX9_tone_41 3 rfl ?_
        refine so_pI (pc := 42) hX dX9_tone_42 fl_X9_74 fw_4_3 (ekC hL ha4) rfl rfl ?_
        refine so_aload (pc := 45) hX dX9_tone_45 0 rfl ?_
        refine so_iload_n (pc := 47) hX dX9_tone_47 4 rfl ?_
        refine so_pI (pc := 48) hX dX9_tone_48 fl_X9_77 fw_4_4 (ekC hL ha4) rfl rfl ?_
        refine so_iconst (v := (1 : Int32)) (pc := 51) hX dX9_tone_51 (by decide) ?_
        exact so_iretH (pc := 52) hX hR h (by decide) dX9_tone_52
      · have h := ip hc10 h
        refine so_iconst (v := (0 : Int32)) (pc := 37) hX dX9_tone_37 (by decide) ?_
        exact so_iretH (pc := 38) hX hR h (by decide) dX9_tone_38
    · have h := ip hc7 h
      refine so_iconst (v := (0 : Int32)) (pc := 25) hX dX9_tone_25 (by decide) ?_
      exact so_iretH (pc := 26) hX hR h (by decide) dX9_tone_26
set_option maxHeartbeats 4000000 in
set_option maxRecDepth 100000 in
theorem c_X9_flaw {l : Launch} {V : Ev} (hL : V.2.2.2 = lyC) {v1 : Int32} {v2 : Int32} {v3 : Int32} {v4 : Int32} {v5 : Int32} {v6 : Int32}  {μ : Mem} {rZ : Int32} {μZ : Mem} (h : f_X9_flaw v1 v2 v3 v4 v5 v6 μ = some (rZ, μZ)) : CT l V yX9_flaw cX9_flaw 9 (some .int) 4 [.ref (evA V 0), .int v1, .int v2, .int v3, .int v4, .int v5, .int v6] μ μZ (some (.int rZ)) := by
  refine so_met [(0, .ref (evA V 0)), (1, .int v1), (2, .int v2), (3, .int v3), (4, .int v4), (5, .int v5), (6, .int v6)] (by decide) (Nat.le_of_ble_eq_true rfl) (evCn hL) rfl ?_
  intro X hl hV hn hX hR
  subst hl hV
  unfold f_X9_flaw at h
  refine so_aload_n (pc := 0) hX dX9_flaw_0 0 rfl ?_
  refine so_gR (pc := 1) hX 6 dX9_flaw_1 fl_X9_32 (ekC hL rfl) (erC hL rfl) ?_
  refine so_iload_n (pc := 4) hX dX9_flaw_4 1 rfl ?_
  obtain ⟨o2, μ1, hr, h⟩ := obd h
  refine so_callV (As := [.int v1]) (rest := []) (pc := 5) hX dX9_flaw_5 (c_X8_logAt hL hr) mw_X8_logAt mv_X8_logAt ml_X9_70 (ekC hL rfl) (by decide) rfl rfl rfl rfl (by omega) (by decide) (Nat.le_of_ble_eq_true rfl) ?_
  cases o2 with
  | none =>
    have h := oc_n h
    refine so_astoreN (pc := 8) hX dX9_flaw_8 [(7, .null), (0, .ref (evA (xV X) 0)), (1, .int v1), (2, .int v2), (3, .int v3), (4, .int v4), (5, .int v5), (6, .int v6)] (by rw [hn]; decide) rfl ?_
    refine so_aloadN (pc := 10) hX dX9_flaw_10 0 rfl ?_
    refine so_ifnullN (pc := 12) hX 25 dX9_flaw_12 (by decide) ?_
    refine so_iconst (v := (-1 : Int32)) (pc := 25) hX dX9_flaw_25 (by decide) ?_
    exact so_iretH (pc := 26) hX hR h rfl dX9_flaw_26
  | some a3 =>
    have h := oc_s h
    have ha4 := kr_X8_logAt hr
    refine so_astore (pc := 8) hX dX9_flaw_8 [(7, .ref (evA (xV X) a3)), (0, .ref (evA (xV X) 0)), (1, .int v1), (2, .int v2), (3, .int v3), (4, .int v4), (5, .int v5), (6, .int v6)] (by rw [hn]; decide) rfl ?_
    refine so_aload (pc := 10) hX dX9_flaw_10 0 rfl ?_
    refine so_ifnull (pc := 12) hX dX9_flaw_12 ?_
    refine so_aload (pc := 15) hX dX9_flaw_15 0 rfl ?_
    refine so_iload_n (pc := 17) hX dX9_flaw_17 3 rfl ?_
    refine so_i2l (pc := 18) hX dX9_flaw_18 ?_
    obtain ⟨r6, μ5, hr, h⟩ := obd h
    refine so_callV (As := [.long (Int32.toInt64 v2)]) (rest := []) (pc := 19) hX dX9_flaw_19 (c_X4_hasLeaf hL ha4 hr) mw_X4_hasLeaf mv_X4_hasLeaf ml_X9_80 (ekC hL ha4) (by decide) rfl rfl rfl rfl (by omega) (by decide) (Nat.le_of_ble_eq_true rfl) ?_
    refine so_if_ne (pc := 22) hX 27 dX9_flaw_22 (by decide) (fun hc7 => ?_) (fun hc7 => ?_)
    · have h := iq hc7 h
      refine so_iload_n (pc := 27) hX dX9_flaw_27 4 rfl ?_
      refine so_iconst (v := (0 : Int32)) (pc := 28) hX dX9_flaw_28 (by decide) ?_
      refine so_bipush (v := (100 : Int32)) (pc := 29) hX dX9_flaw_29 (by decide) ?_
      obtain ⟨r9, μ8, hr, h⟩ := obd h
      refine so_callS (As := [.int v3, .int (0 : Int32), .int (100 : Int32)]) (rest := []) (pc := 31) hX dX9_flaw_31 (c_X9_isFrom hL hr) mw_X9_isFrom ms_X9_isFrom ml_X9_51 rfl rfl (by omega) (by decide) (Nat.le_of_ble_eq_true rfl) ?_
      refine so_if_eq (pc := 34) hX 74 dX9_flaw_34 (by decide) (fun hc10 => ?_) (fun hc10 => ?_)
      · have h := ip hc10 h
        refine so_iconst (v := (0 : Int32)) (pc := 74) hX dX9_flaw_74 (by decide) ?_
        refine so_istore (pc := 75) hX dX9_flaw_75 [(8, .int (0 : Int32)), (7, .ref (evA (xV X) a3)), (0, .ref (evA (xV X) 0)), (1, .int v1), (2, .int v2), (3, .int v3), (4, .int v4), (5, .int v5), (6, .int v6)] (by rw [hn]; decide) rfl ?_
        refine so_iload (pc := 77) hX dX9_flaw_77 0 rfl ?_
        refine so_if_eq (pc := 79) hX 98 dX9_flaw_79 (by decide) (fun _ => ?_) (fun hz => absurd hz (by decide))
        refine so_iconst (v := (-1 : Int32)) (pc := 98) hX dX9_flaw_98 (by decide) ?_
        exact so_iretH (pc := 99) hX hR h rfl dX9_flaw_99
      · have h := iq hc10 h
        refine so_iload (pc := 37) hX dX9_flaw_37 5 rfl ?_
        refine so_iconst (v := (0 : Int32)) (pc := 39) hX dX9_flaw_39 (by decide) ?_
        refine so_bipush (v := (100 : Int32)) (pc := 40) hX dX9_flaw_40 (by decide) ?_
        obtain ⟨r12, μ11, hr, h⟩ := obd h
        refine so_callS (As := [.int v4, .int (0 : Int32), .int (100 : Int32)]) (rest := []) (pc := 42) hX dX9_flaw_42 (c_X9_isFrom hL hr) mw_X9_isFrom ms_X9_isFrom ml_X9_51 rfl rfl (by omega) (by decide) (Nat.le_of_ble_eq_true rfl) ?_
        refine so_if_eq (pc := 45) hX 74 dX9_flaw_45 (by decide) (fun hc13 => ?_) (fun hc13 => ?_)
        · have h := ip hc13 h
          refine so_iconst (v := (0 : Int32)) (pc := 74) hX dX9_flaw_74 (by decide) ?_
          refine so_istore (pc := 75) hX dX9_flaw_75 [(8, .int (0 : Int32)), (7, .ref (evA (xV X) a3)), (0, .ref (evA (xV X) 0)), (1, .int v1), (2, .int v2), (3, .int v3), (4, .int v4), (5, .int v5), (6, .int v6)] (by rw [hn]; decide) rfl ?_
          refine so_iload (pc := 77) hX dX9_flaw_77 0 rfl ?_
          refine so_if_eq (pc := 79) hX 98 dX9_flaw_79 (by decide) (fun _ => ?_) (fun hz => absurd hz (by decide))
          refine so_iconst (v := (-1 : Int32)) (pc := 98) hX dX9_flaw_98 (by decide) ?_
          exact so_iretH (pc := 99) hX hR h rfl dX9_flaw_99
        · have h := iq hc13 h
          refine so_iload (pc := 48) hX dX9_flaw_48 6 rfl ?_
          refine so_iconst (v := (1 : Int32)) (pc := 50) hX dX9_flaw_50 (by decide) ?_
          refine so_bipush (v := (100 : Int32)) (pc := 51) hX dX9_flaw_51 (by decide) ?_
          obtain ⟨r15, μ14, hr, h⟩ := obd h
          refine so_callS (As := [.int v5, .int (1 : Int32), .int (100 : Int32)]) (rest := []) (pc := 53) hX dX9_flaw_53 (c_X9_isFrom hL hr) mw_X9_isFrom ms_X9_isFrom ml_X9_51 rfl rfl (by omega) (by decide) (Nat.le_of_ble_eq_true rfl) ?_
          refine so_if_eq (pc := 56) hX 74 dX9_flaw_56 (by decide) (fun hc16 => ?_) (fun hc16 => ?_)
          · have h := ip hc16 h
            refine so_iconst (v := (0 : Int32)) (pc := 74) hX dX9_flaw_74 (by decide) ?_
            refine so_istore (pc := 75) hX dX9_flaw_75 [(8, .int (0 : Int32)), (7, .ref (evA (xV X) a3)), (0, .ref (evA (xV X) 0)), (1, .int v1), (2, .int v2), (3, .int v3), (4, .int v4), (5, .int v5), (6, .int v6)] (by rw [hn]; decide) rfl ?_
            refine so_iload (pc := 77) hX dX9_flaw_77 0 rfl ?_
            refine so_if_eq (pc := 79) hX 98 dX9_flaw_79 (by decide) (fun _ => ?_) (fun hz => absurd hz (by decide))
            refine so_iconst (v := (-1 : Int32)) (pc := 98) hX dX9_flaw_98 (by decide) ?_
            exact so_iretH (pc := 99) hX hR h rfl dX9_flaw_99
          · have h := iq hc16 h
            refine so_iload (pc := 59) hX dX9_flaw_59 7 rfl ?_
            refine so_iconst (v := (1 : Int32)) (pc := 61) hX dX9_flaw_61 (by decide) ?_
            refine so_bipush (v := (100 : Int32)) (pc := 62) hX dX9_flaw_62 (by decide) ?_
            obtain ⟨r18, μ17, hr, h⟩ := obd h
            refine so_callS (As := [.int v6, .int (1 : Int32), .int (100 : Int32)]) (rest := []) (pc := 64) hX dX9_flaw_64 (c_X9_isFrom hL hr) mw_X9_isFrom ms_X9_isFrom ml_X9_51 rfl rfl (by omega) (by decide) (Nat.le_of_ble_eq_true rfl) ?_
            refine so_if_eq (pc := 67) hX 74 dX9_flaw_67 (by decide) (fun hc19 => ?_) (fun hc19 => ?_)
            · have h := ip hc19 h
              refine so_iconst (v := (0 : Int32)) (pc := 74) hX dX9_flaw_74 (by decide) ?_
              refine so_istore (pc := 75) hX dX9_flaw_75 [(8, .int (0 : Int32)), (7, .ref (evA (xV X) a3)), (0, .ref (evA (xV X) 0)), (1, .int v1), (2, .int v2), (3, .int v3), (4, .int v4), (5, .int v5), (6, .int v6)] (by rw [hn]; decide) rfl ?_
              refine so_iload (pc := 77) hX dX9_flaw_77 0 rfl ?_
              refine so_if_eq (pc := 79) hX 98 dX9_flaw_79 (by decide) (fun _ => ?_) (fun hz => absurd hz (by decide))
              refine so_iconst (v := (-1 : Int32)) (pc := 98) hX dX9_flaw_98 (by decide) ?_
              exact so_iretH (pc := 99) hX hR h rfl dX9_flaw_99
            · have h := iq hc19 h
              refine so_iconst (v := (1 : Int32)) (pc := 70) hX dX9_flaw_70 (by decide) ?_
              refine so_goto (pc := 71) hX 75 dX9_flaw_71 (by decide) ?_
              refine so_istore (pc := 75) hX dX9_flaw_75 [(8, .int (1 : Int32)), (7, .ref (evA (xV X) a3)), (0, .ref (evA (xV X) 0)), (1, .int v1), (2, .int v2), (3, .int v3), (4, .int v4), (5, .int v5), (6, .int v6)] (by rw [hn]; decide) rfl ?_
              refine so_iload (pc := 77) hX dX9_flaw_77 0 rfl ?_
              refine so_if_eq (pc := 79) hX 98 dX9_flaw_79 (by decide) (fun hz => absurd hz (by decide)) (fun _ => ?_)
              refine so_aload (pc := 82) hX dX9_flaw_82 1 rfl ?_
              refine so_iload_n (pc := 84) hX dX9_flaw_84 4 rfl ?_
              refine so_iload_n (pc := 85) hX dX9_flaw_85 5 rfl ?_
              refine so_iload (pc := 86) hX dX9_flaw_86 6 rfl ?_
              refine so_iload (pc := 88) hX dX9_flaw_88 7 rfl ?_
              refine so_iload (pc := 90) hX dX9_flaw_90 8 rfl ?_
              obtain ⟨r21, μ20, hr, h⟩ := obd h
              refine so_callV (As := [.int v2, .int v3, .int v4, .int v5, .int v6]) (rest := []) (pc := 92) hX dX9_flaw_92 (c_X4_addFlaw hL ha4 hr) mw_X4_addFlaw mv_X4_addFlaw ml_X9_84 (ekC hL ha4) (by decide) rfl rfl rfl rfl (by omega) (by decide) (Nat.le_of_ble_eq_true rfl) ?_
              refine so_goto (pc := 95) hX 99 dX9_flaw_95 (by decide) ?_
              exact so_iretH (pc := 99) hX hR h rfl dX9_flaw_99
    · have h := ip hc7 h
      refine so_iconst (v := (-1 : Int32)) (pc := 25) hX dX9_flaw_25 (by decide) ?_
      exact so_iretH (pc := 26) hX hR h rfl dX9_flaw_26
set_option maxHeartbeats 4000000 in
set_option maxRecDepth 100000 in
theorem c_X9_drift {l : Launch} {V : Ev} (hL : V.2.2.2 = lyC) {v1 : Int32} {v2 : Int32} {v3 : Int32} {v4 : Int32}  {μ : Mem} {rZ : Int32} {μZ : Mem} (h : f_X9_drift v1 v2 v3 v4 μ = some (rZ, μZ)) : CT l V yX9_drift cX9_drift 6 (some .boolean) 4 [.ref (evA V 0), .int v1, .int v2, .int v3, .int v4] μ μZ (some (.int rZ)) := by
  refine so_met [(0, .ref (evA V 0)), (1, .int v1), (2, .int v2), (3, .int v3), (4, .int v4)] (by decide) (Nat.le_of_ble_eq_true rfl) (evCn hL) rfl ?_
  intro X hl hV hn hX hR
  subst hl hV
  unfold f_X9_drift at h
  refine so_aload_n (pc := 0) hX dX9_drift_0 0 rfl ?_
  refine so_gR (pc := 1) hX 6 dX9_drift_1 fl_X9_32 (ekC hL rfl) (erC hL rfl) ?_
  refine so_iload_n (pc := 4) hX dX9_drift_4 1 rfl ?_
  obtain ⟨o2, μ1, hr, h⟩ := obd h
  refine so_callV (As := [.int v1]) (rest := []) (pc := 5) hX dX9_drift_5 (c_X8_logAt hL hr) mw_X8_logAt mv_X8_logAt ml_X9_70 (ekC hL rfl) (by decide) rfl rfl rfl rfl (by omega) (by decide) (Nat.le_of_ble_eq_true rfl) ?_
  cases o2 with
  | none =>
    have h := oc_n h
    refine so_astoreN (pc := 8) hX dX9_drift_8 [(5, .null), (0, .ref (evA (xV X) 0)), (1, .int v1), (2, .int v2), (3, .int v3), (4, .int v4)] (by rw [hn]; decide) rfl ?_
    refine so_aloadN (pc := 10) hX dX9_drift_10 0 rfl ?_
    refine so_ifnullN (pc := 12) hX 25 dX9_drift_12 (by decide) ?_
    refine so_iconst (v := (0 : Int32)) (pc := 25) hX dX9_drift_25 (by decide) ?_
    exact so_iretH (pc := 26) hX hR h (by decide) dX9_drift_26
  | some a3 =>
    have h := oc_s h
    have ha4 := kr_X8_logAt hr
    refine so_astore (pc := 8) hX dX9_drift_8 [(5, .ref (evA (xV X) a3)), (0, .ref (evA (xV X) 0)), (1, .int v1), (2, .int v2), (3, .int v3), (4, .int v4)] (by rw [hn]; decide) rfl ?_
    refine so_aload (pc := 10) hX dX9_drift_10 0 rfl ?_
    refine so_ifnull (pc := 12) hX dX9_drift_12 ?_
    refine so_aload (pc := 15) hX dX9_drift_15 0 rfl ?_
    refine so_iload_n (pc := 17) hX dX9_drift_17 3 rfl ?_
    refine so_i2l (pc := 18) hX dX9_drift_18 ?_
    obtain ⟨r6, μ5, hr, h⟩ := obd h
    refine so_callV (As := [.long (Int32.toInt64 v2)]) (rest := []) (pc := 19) hX dX9_drift_19 (c_X4_hasLeaf hL ha4 hr) mw_X4_hasLeaf mv_X4_hasLeaf ml_X9_80 (ekC hL ha4) (by decide) rfl rfl rfl rfl (by omega) (by decide) (Nat.le_of_ble_eq_true rfl) ?_
    refine so_if_ne (pc := 22) hX 27 dX9_drift_22 (by decide) (fun hc7 => ?_) (fun hc7 => ?_)
    · have h := iq hc7 h
      refine so_iload_n (pc := 27) hX dX9_drift_27 4 rfl ?_
      refine so_bipush (v := (-20 : Int32)) (pc := 28) hX dX9_drift_28 (by decide) ?_
      refine so_bipush (v := (20 : Int32)) (pc := 30) hX dX9_drift_30 (by decide) ?_
      obtain ⟨r9, μ8, hr, h⟩ := obd h
      refine so_callS (As := [.int v3, .int (-20 : Int32), .int (20 : Int32)]) (rest := []) (pc := 32) hX dX9_drift_32 (c_X9_isFrom hL hr) mw_X9_isFrom ms_X9_isFrom ml_X9_51 rfl rfl (by omega) (by decide) (Nat.le_of_ble_eq_true rfl) ?_
      refine so_if_eq (pc := 35) hX 66 dX9_drift_35 (by decide) (fun hc10 => ?_) (fun hc10 => ?_)
      · have h := ip hc10 h
        refine so_iconst (v := (0 : Int32)) (pc := 66) hX dX9_drift_66 (by decide) ?_
        exact so_iretH (pc := 67) hX hR h (by decide) dX9_drift_67
      · have h := iq hc10 h
        refine so_iload (pc := 38) hX dX9_drift_38 5 rfl ?_
        refine so_bipush (v := (-20 : Int32)) (pc := 40) hX dX9_drift_40 (by decide) ?_
        refine so_bipush (v := (20 : Int32)) (pc := 42) hX dX9_drift_42 (by decide) ?_
        obtain ⟨r12, μ11, hr, h⟩ := obd h
        refine so_callS (As := [.int v4, .int (-20 : Int32), .int (20 : Int32)]) (rest := []) (pc := 44) hX dX9_drift_44 (c_X9_isFrom hL hr) mw_X9_isFrom ms_X9_isFrom ml_X9_51 rfl rfl (by omega) (by decide) (Nat.le_of_ble_eq_true rfl) ?_
        refine so_if_eq (pc := 47) hX 66 dX9_drift_47 (by decide) (fun hc13 => ?_) (fun hc13 => ?_)
        · have h := ip hc13 h
          refine so_iconst (v := (0 : Int32)) (pc := 66) hX dX9_drift_66 (by decide) ?_
          exact so_iretH (pc := 67) hX hR h (by decide) dX9_drift_67
        · have h := iq hc13 h
          refine so_aload (pc := 50) hX dX9_drift_50 0 rfl ?_
          refine so_iload_n (pc := 52) hX dX9_drift_52 3 rfl ?_
          refine so_iload_n (pc := 53) hX dX9_drift_53 4 rfl ?_
          refine so_iload (pc := 54) hX dX9_drift_54 5 rfl ?_
          obtain ⟨r15, μ14, hr, h⟩ := obd h
          refine so_callV (As := [.int v2, .int v3, .int v4]) (rest := []) (pc := 56) hX dX9_drift_56 (c_X4_driftLatest hL ha4 hr) mw_X4_driftLatest mv_X4_driftLatest ml_X9_88 (ekC hL ha4) (by decide) rfl rfl rfl rfl (by omega) (by decide) (Nat.le_of_ble_eq_true rfl) ?_
          refine so_if_eq (pc := 59) hX 66 dX9_drift_59 (by decide) (fun hc16 => ?_) (fun hc16 => ?_)
          · have h := ip hc16 h
            refine so_iconst (v := (0 : Int32)) (pc := 66) hX dX9_drift_66 (by decide) ?_
            exact so_iretH (pc := 67) hX hR h (by decide) dX9_drift_67
          · have h := iq hc16 h
            refine so_iconst (v := (1 : Int32)) (pc := 62) hX dX9_drift_62 (by decide) ?_
            refine so_goto (pc := 63) hX 67 dX9_drift_63 (by decide) ?_
            exact so_iretH (pc := 67) hX hR h (by decide) dX9_drift_67
    · have h := ip hc7 h
      refine so_iconst (v := (0 : Int32)) (pc := 25) hX dX9_drift_25 (by decide) ?_
      exact so_iretH (pc := 26) hX hR h (by decide) dX9_drift_26
set_option maxHeartbeats 4000000 in
set_option maxRecDepth 100000 in
theorem c_X9_leaf {l : Launch} {V : Ev} (hL : V.2.2.2 = lyC) {v1 : Int32} {v2 : Int32} {v3 : Int32}  {μ : Mem} {rZ : Int32} {μZ : Mem} (h : f_X9_leaf v1 v2 v3 μ = some (rZ, μZ)) : CT l V yX9_leaf cX9_leaf 5 (some .int) 3 [.ref (evA V 0), .int v1, .int v2, .int v3] μ μZ (some (.int rZ)) := by
  refine so_met [(0, .ref (evA V 0)), (1, .int v1), (2, .int v2), (3, .int v3)] (by decide) (Nat.le_of_ble_eq_true rfl) (evCn hL) rfl ?_
  intro X hl hV hn hX hR
  subst hl hV
  unfold f_X9_leaf at h
  refine so_aload_n (pc := 0) hX dX9_leaf_0 0 rfl ?_
  refine so_gR (pc := 1) hX 6 dX9_leaf_1 fl_X9_32 (ekC hL rfl) (erC hL rfl) ?_
  refine so_iload_n (pc := 4) hX dX9_leaf_4 1 rfl ?_
  obtain ⟨o2, μ1, hr, h⟩ := obd h
  refine so_callV (As := [.int v1]) (rest := []) (pc := 5) hX dX9_leaf_5 (c_X8_logAt hL hr) mw_X8_logAt mv_X8_logAt ml_X9_70 (ekC hL rfl) (by decide) rfl rfl rfl rfl (by omega) (by decide) (Nat.le_of_ble_eq_true rfl) ?_
  cases o2 with
  | none =>
    have h := oc_n h
    refine so_astoreN (pc := 8) hX dX9_leaf_8 [(4, .null), (0, .ref (evA (xV X) 0)), (1, .int v1), (2, .int v2), (3, .int v3)] (by rw [hn]; decide) rfl ?_
    refine so_aloadN (pc := 10) hX dX9_leaf_10 0 rfl ?_
    refine so_ifnullN (pc := 12) hX 25 dX9_leaf_12 (by decide) ?_
    refine so_sipush (v := (-1000 : Int32)) (pc := 25) hX dX9_leaf_25 (by decide) ?_
    exact so_iretH (pc := 28) hX hR h rfl dX9_leaf_28
  | some a3 =>
    have h := oc_s h
    have ha4 := kr_X8_logAt hr
    refine so_astore (pc := 8) hX dX9_leaf_8 [(4, .ref (evA (xV X) a3)), (0, .ref (evA (xV X) 0)), (1, .int v1), (2, .int v2), (3, .int v3)] (by rw [hn]; decide) rfl ?_
    refine so_aload (pc := 10) hX dX9_leaf_10 0 rfl ?_
    refine so_ifnull (pc := 12) hX dX9_leaf_12 ?_
    refine so_aload (pc := 15) hX dX9_leaf_15 0 rfl ?_
    refine so_iload_n (pc := 17) hX dX9_leaf_17 3 rfl ?_
    refine so_i2l (pc := 18) hX dX9_leaf_18 ?_
    obtain ⟨r6, μ5, hr, h⟩ := obd h
    refine so_callV (As := [.long (Int32.toInt64 v2)]) (rest := []) (pc := 19) hX dX9_leaf_19 (c_X4_hasLeaf hL ha4 hr) mw_X4_hasLeaf mv_X4_hasLeaf ml_X9_80 (ekC hL ha4) (by decide) rfl rfl rfl rfl (by omega) (by decide) (Nat.le_of_ble_eq_true rfl) ?_
    refine so_if_ne (pc := 22) hX 29 dX9_leaf_22 (by decide) (fun hc7 => ?_) (fun hc7 => ?_)
    · have h := iq hc7 h
      refine so_iload_n (pc := 29) hX dX9_leaf_29 4 rfl ?_
      by_cases hc8 : v3 = (0 : Int32)
      · have h := ip hc8 h
        refine so_tabIn (off := 38) (pc := 30) hX 68 dX9_leaf_30 (by rw [hc8]; decide) (by rw [hc8]; decide) (by rw [hc8]; rfl) (by decide) ?_
        refine so_aload (pc := 68) hX dX9_leaf_68 0 rfl ?_
        refine so_iload_n (pc := 70) hX dX9_leaf_70 3 rfl ?_
        obtain ⟨r10, μ9, hr, h⟩ := obd h
        refine so_callV (As := [.int v2]) (rest := []) (pc := 71) hX dX9_leaf_71 (c_X4_widthOf hL ha4 hr) mw_X4_widthOf mv_X4_widthOf ml_X9_91 (ekC hL ha4) (by decide) rfl rfl rfl rfl (by omega) (by decide) (Nat.le_of_ble_eq_true rfl) ?_
        exact so_iretH (pc := 74) hX hR h rfl dX9_leaf_74
      · have h := iq hc8 h
        by_cases hc11 : v3 = (1 : Int32)
        · have h := ip hc11 h
          refine so_tabIn (off := 45) (pc := 30) hX 75 dX9_leaf_30 (by rw [hc11]; decide) (by rw [hc11]; decide) (by rw [hc11]; rfl) (by decide) ?_
          refine so_aload (pc := 75) hX dX9_leaf_75 0 rfl ?_
          refine so_iload_n (pc := 77) hX dX9_leaf_77 3 rfl ?_
          obtain ⟨r13, μ12, hr, h⟩ := obd h
          refine so_callV (As := [.int v2]) (rest := []) (pc := 78) hX dX9_leaf_78 (c_X4_toneOf hL ha4 hr) mw_X4_toneOf mv_X4_toneOf ml_X9_95 (ekC hL ha4) (by decide) rfl rfl rfl rfl (by omega) (by decide) (Nat.le_of_ble_eq_true rfl) ?_
          exact so_iretH (pc := 81) hX hR h rfl dX9_leaf_81
        · have h := iq hc11 h
          by_cases hc14 : v3 = (2 : Int32)
          · have h := ip hc14 h
            refine so_tabIn (off := 52) (pc := 30) hX 82 dX9_leaf_30 (by rw [hc14]; decide) (by rw [hc14]; decide) (by rw [hc14]; rfl) (by decide) ?_
            refine so_aload (pc := 82) hX dX9_leaf_82 0 rfl ?_
            refine so_iload_n (pc := 84) hX dX9_leaf_84 3 rfl ?_
            obtain ⟨r16, μ15, hr, h⟩ := obd h
            refine so_callV (As := [.int v2]) (rest := []) (pc := 85) hX dX9_leaf_85 (c_X4_countFlawsIn hL ha4 hr) mw_X4_countFlawsIn mv_X4_countFlawsIn ml_X9_98 (ekC hL ha4) (by decide) rfl rfl rfl rfl (by omega) (by decide) (Nat.le_of_ble_eq_true rfl) ?_
            exact so_iretH (pc := 88) hX hR h rfl dX9_leaf_88
          · have h := iq hc14 h
            by_cases hc17 : v3 = (3 : Int32)
            · have h := ip hc17 h
              refine so_tabIn (off := 59) (pc := 30) hX 89 dX9_leaf_30 (by rw [hc17]; decide) (by rw [hc17]; decide) (by rw [hc17]; rfl) (by decide) ?_
              refine so_aload (pc := 89) hX dX9_leaf_89 0 rfl ?_
              refine so_gR (pc := 91) hX (a3 + 1) dX9_leaf_91 fl_X9_101 (ekC hL ha4) (erC hL (rq_4_5 ha4)) ?_
              refine so_iload_n (pc := 94) hX dX9_leaf_94 3 rfl ?_
              obtain ⟨e18, hr, h⟩ := ob h
              refine so_iald (pc := 95) hX dX9_leaf_95 (ekC hL (kq_4_5 ha4)) (elC hL (nq_4_5 ha4)) hr ?_
              exact so_iretH (pc := 96) hX hR h rfl dX9_leaf_96
            · have h := iq hc17 h
              by_cases hc19 : v3 = (4 : Int32)
              · have h := ip hc19 h
                refine so_tabIn (off := 67) (pc := 30) hX 97 dX9_leaf_30 (by rw [hc19]; decide) (by rw [hc19]; decide) (by rw [hc19]; rfl) (by decide) ?_
                refine so_iload_n (pc := 97) hX dX9_leaf_97 3 rfl ?_
                refine so_if_ne (pc := 98) hX 109 dX9_leaf_98 (by decide) (fun hc20 => ?_) (fun hc20 => ?_)
                · have h := iq hc20 h
                  refine so_sipush (v := (-1000 : Int32)) (pc := 109) hX dX9_leaf_109 (by decide) ?_
                  exact so_iretH (pc := 112) hX hR h rfl dX9_leaf_112
                · have h := ip hc20 h
                  refine so_aload (pc := 101) hX dX9_leaf_101 0 rfl ?_
                  refine so_gI (pc := 103) hX dX9_leaf_103 fl_X9_105 (ekC hL ha4) ?_
                  refine so_goto (pc := 106) hX 112 dX9_leaf_106 (by decide) ?_
                  exact so_iretH (pc := 112) hX hR h rfl dX9_leaf_112
              · have h := iq hc19 h
                by_cases hc21 : v3 = (5 : Int32)
                · have h := ip hc21 h
                  refine so_tabIn (off := 83) (pc := 30) hX 113 dX9_leaf_30 (by rw [hc21]; decide) (by rw [hc21]; decide) (by rw [hc21]; rfl) (by decide) ?_
                  refine so_iload_n (pc := 113) hX dX9_leaf_113 3 rfl ?_
                  refine so_if_ne (pc := 114) hX 125 dX9_leaf_114 (by decide) (fun hc22 => ?_) (fun hc22 => ?_)
                  · have h := iq hc22 h
                    refine so_sipush (v := (-1000 : Int32)) (pc := 125) hX dX9_leaf_125 (by decide) ?_
                    exact so_iretH (pc := 128) hX hR h rfl dX9_leaf_128
                  · have h := ip hc22 h
                    refine so_aload (pc := 117) hX dX9_leaf_117 0 rfl ?_
                    refine so_gI (pc := 119) hX dX9_leaf_119 fl_X9_108 (ekC hL ha4) ?_
                    refine so_goto (pc := 122) hX 128 dX9_leaf_122 (by decide) ?_
                    exact so_iretH (pc := 128) hX hR h rfl dX9_leaf_128
                · have h := iq hc21 h
                  refine so_tabOut (pc := 30) hX 129 dX9_leaf_30 (tabO6 hc8 hc11 hc14 hc17 hc19 hc21) (by decide) ?_
                  refine so_sipush (v := (-1000 : Int32)) (pc := 129) hX dX9_leaf_129 (by decide) ?_
                  exact so_iretH (pc := 132) hX hR h rfl dX9_leaf_132
    · have h := ip hc7 h
      refine so_sipush (v := (-1000 : Int32)) (pc := 25) hX dX9_leaf_25 (by decide) ?_
      exact so_iretH (pc := 28) hX hR h rfl dX9_leaf_28
set_option maxHeartbeats 4000000 in
set_option maxRecDepth 100000 in
theorem c_X9_hit {l : Launch} {V : Ev} (hL : V.2.2.2 = lyC) {v1 : Int32} {v2 : Int32} {v3 : Int32} {v4 : Int32} {v5 : Int32} {v6 : Int32}  {μ : Mem} {rZ : Int32} {μZ : Mem} (h : f_X9_hit v1 v2 v3 v4 v5 v6 μ = some (rZ, μZ)) : CT l V yX9_hit cX9_hit 8 (some .int) 3 [.ref (evA V 0), .int v1, .int v2, .int v3, .int v4, .int v5, .int v6] μ μZ (some (.int rZ)) := by
  refine so_met [(0, .ref (evA V 0)), (1, .int v1), (2, .int v2), (3, .int v3), (4, .int v4), (5, .int v5), (6, .int v6)] (by decide) (Nat.le_of_ble_eq_true rfl) (evCn hL) rfl ?_
  intro X hl hV hn hX hR
  subst hl hV
  unfold f_X9_hit at h
  refine so_aload_n (pc := 0) hX dX9_hit_0 0 rfl ?_
  refine so_gR (pc := 1) hX 6 dX9_hit_1 fl_X9_32 (ekC hL rfl) (erC hL rfl) ?_
  refine so_iload_n (pc := 4) hX dX9_hit_4 1 rfl ?_
  obtain ⟨o2, μ1, hr, h⟩ := obd h
  refine so_callV (As := [.int v1]) (rest := []) (pc := 5) hX dX9_hit_5 (c_X8_logAt hL hr) mw_X8_logAt mv_X8_logAt ml_X9_70 (ekC hL rfl) (by decide) rfl rfl rfl rfl (by omega) (by decide) (Nat.le_of_ble_eq_true rfl) ?_
  cases o2 with
  | none =>
    have h := oc_n h
    refine so_astoreN (pc := 8) hX dX9_hit_8 [(7, .null), (0, .ref (evA (xV X) 0)), (1, .int v1), (2, .int v2), (3, .int v3), (4, .int v4), (5, .int v5), (6, .int v6)] (by rw [hn]; decide) rfl ?_
    refine so_aloadN (pc := 10) hX dX9_hit_10 0 rfl ?_
    refine so_ifnullN (pc := 12) hX 25 dX9_hit_12 (by decide) ?_
    refine so_bipush (v := (-2 : Int32)) (pc := 25) hX dX9_hit_25 (by decide) ?_
    exact so_iretH (pc := 27) hX hR h rfl dX9_hit_27
  | some a3 =>
    have h := oc_s h
    have ha4 := kr_X8_logAt hr
    refine so_astore (pc := 8) hX dX9_hit_8 [(7, .ref (evA (xV X) a3)), (0, .ref (evA (xV X) 0)), (1, .int v1), (2, .int v2), (3, .int v3), (4, .int v4), (5, .int v5), (6, .int v6)] (by rw [hn]; decide) rfl ?_
    refine so_aload (pc := 10) hX dX9_hit_10 0 rfl ?_
    refine so_ifnull (pc := 12) hX dX9_hit_12 ?_
    refine so_aload (pc := 15) hX dX9_hit_15 0 rfl ?_
    refine so_iload_n (pc := 17) hX dX9_hit_17 3 rfl ?_
    refine so_i2l (pc := 18) hX dX9_hit_18 ?_
    obtain ⟨r6, μ5, hr, h⟩ := obd h
    refine so_callV (As := [.long (Int32.toInt64 v2)]) (rest := []) (pc := 19) hX dX9_hit_19 (c_X4_hasLeaf hL ha4 hr) mw_X4_hasLeaf mv_X4_hasLeaf ml_X9_80 (ekC hL ha4) (by decide) rfl rfl rfl rfl (by omega) (by decide) (Nat.le_of_ble_eq_true rfl) ?_
    refine so_if_ne (pc := 22) hX 28 dX9_hit_22 (by decide) (fun hc7 => ?_) (fun hc7 => ?_)
    · have h := iq hc7 h
      refine so_iload (pc := 28) hX dX9_hit_28 6 rfl ?_
      refine so_iconst (v := (1 : Int32)) (pc := 30) hX dX9_hit_30 (by decide) ?_
      refine so_bipush (v := (100 : Int32)) (pc := 31) hX dX9_hit_31 (by decide) ?_
      obtain ⟨r9, μ8, hr, h⟩ := obd h
      refine so_callS (As := [.int v5, .int (1 : Int32), .int (100 : Int32)]) (rest := []) (pc := 33) hX dX9_hit_33 (c_X9_isFrom hL hr) mw_X9_isFrom ms_X9_isFrom ml_X9_51 rfl rfl (by omega) (by decide) (Nat.le_of_ble_eq_true rfl) ?_
      refine so_if_eq (pc := 36) hX 50 dX9_hit_36 (by decide) (fun hc10 => ?_) (fun hc10 => ?_)
      · have h := ip hc10 h
        refine so_bipush (v := (-2 : Int32)) (pc := 50) hX dX9_hit_50 (by decide) ?_
        exact so_iretH (pc := 52) hX hR h rfl dX9_hit_52
      · have h := iq hc10 h
        refine so_iload (pc := 39) hX dX9_hit_39 7 rfl ?_
        refine so_iconst (v := (1 : Int32)) (pc := 41) hX dX9_hit_41 (by decide) ?_
        refine so_bipush (v := (100 : Int32)) (pc := 42) hX dX9_hit_42 (by decide) ?_
        obtain ⟨r12, μ11, hr, h⟩ := obd h
        refine so_callS (As := [.int v6, .int (1 : Int32), .int (100 : Int32)]) (rest := []) (pc := 44) hX dX9_hit_44 (c_X9_isFrom hL hr) mw_X9_isFrom ms_X9_isFrom ml_X9_51 rfl rfl (by omega) (by decide) (Nat.le_of_ble_eq_true rfl) ?_
        refine so_if_ne (pc := 47) hX 53 dX9_hit_47 (by decide) (fun hc13 => ?_) (fun hc13 => ?_)
        · have h := iq hc13 h
          refine so_aload (pc := 53) hX dX9_hit_53 0 rfl ?_
          refine so_iload_n (pc := 55) hX dX9_hit_55 3 rfl ?_
          refine so_iload_n (pc := 56) hX dX9_hit_56 4 rfl ?_
          refine so_iload (pc := 57) hX dX9_hit_57 5 rfl ?_
          refine so_i2l (pc := 59) hX dX9_hit_59 ?_
          refine so_iload (pc := 60) hX dX9_hit_60 6 rfl ?_
          refine so_iload (pc := 62) hX dX9_hit_62 7 rfl ?_
          obtain ⟨r15, μ14, hr, h⟩ := obd h
          refine so_callV (As := [.int v2, .int v3, .long (Int32.toInt64 v4), .int v5, .int v6]) (rest := []) (pc := 64) hX dX9_hit_64 (c_X4_holds hL ha4 hr) mw_X4_holds mv_X4_holds ml_X9_109 (ekC hL ha4) (by decide) rfl rfl rfl rfl (by omega) (by decide) (Nat.le_of_ble_eq_true rfl) ?_
          refine so_if_eq (pc := 67) hX 86 dX9_hit_67 (by decide) (fun hc16 => ?_) (fun hc16 => ?_)
          · have h := ip hc16 h
            refine so_bipush (v := (-3 : Int32)) (pc := 86) hX dX9_hit_86 (by decide) ?_
            exact so_iretH (pc := 88) hX hR h rfl dX9_hit_88
          · have h := iq hc16 h
            refine so_aload (pc := 70) hX dX9_hit_70 0 rfl ?_
            refine so_iload_n (pc := 72) hX dX9_hit_72 3 rfl ?_
            refine so_iload_n (pc := 73) hX dX9_hit_73 4 rfl ?_
            refine so_iload (pc := 74) hX dX9_hit_74 5 rfl ?_
            refine so_iload (pc := 76) hX dX9_hit_76 6 rfl ?_
            refine so_iload (pc := 78) hX dX9_hit_78 7 rfl ?_
            obtain ⟨r18, μ17, hr, h⟩ := obd h
            refine so_callV (As := [.int v2, .int v3, .int v4, .int v5, .int v6]) (rest := []) (pc := 80) hX dX9_hit_80 (c_X4_leastFlawIn hL ha4 hr) mw_X4_leastFlawIn mv_X4_leastFlawIn ml_X9_113 (ekC hL ha4) (by decide) rfl rfl rfl rfl (by omega) (by decide) (Nat.le_of_ble_eq_true rfl) ?_
            refine so_goto (pc := 83) hX 88 dX9_hit_83 (by decide) ?_
            exact so_iretH (pc := 88) hX hR h rfl dX9_hit_88
        · have h := ip hc13 h
          refine so_bipush (v := (-2 : Int32)) (pc := 50) hX dX9_hit_50 (by decide) ?_
          exact so_iretH (pc := 52) hX hR h rfl dX9_hit_52
    · have h := ip hc7 h
      refine so_bipush (v := (-2 : Int32)) (pc := 25) hX dX9_hit_25 (by decide) ?_
      exact so_iretH (pc := 27) hX hR h rfl dX9_hit_27
set_option maxHeartbeats 4000000 in
set_option maxRecDepth 100000 in
theorem c_X9_door {l : Launch} {V : Ev} (hL : V.2.2.2 = lyC) {v1 : Int32} {v2 : Int32} {v3 : Int32} {v4 : Int32}  {μ : Mem} {rZ : Int32} {μZ : Mem} (h : f_X9_door v1 v2 v3 v4 μ = some (rZ, μZ)) : CT l V yX9_door cX9_door 8 (some .int) 54 [.ref (evA V 0), .int v1, .int v2, .int v3, .int v4] μ μZ (some (.int rZ)) := by
  refine so_met [(0, .ref (evA V 0)), (1, .int v1), (2, .int v2), (3, .int v3), (4, .int v4)] (by decide) (Nat.le_of_ble_eq_true rfl) (evCn hL) rfl ?_
  intro X hl hV hn hX hR
  subst hl hV
  unfold f_X9_door at h
  refine so_iload_n (pc := 0) hX dX9_door_0 1 rfl ?_
  refine so_iconst (v := (0 : Int32)) (pc := 1) hX dX9_door_1 (by decide) ?_
  refine so_bipush (v := (7 : Int32)) (pc := 2) hX dX9_door_2 (by decide) ?_
  obtain ⟨r2, μ1, hr, h⟩ := obd h
  refine so_callS (As := [.int v1, .int (0 : Int32), .int (7 : Int32)]) (rest := []) (pc := 4) hX dX9_door_4 (c_X9_isFrom hL hr) mw_X9_isFrom ms_X9_isFrom ml_X9_51 rfl rfl (by omega) (by decide) (Nat.le_of_ble_eq_true rfl) ?_
  refine so_if_eq (pc := 7) hX 46 dX9_door_7 (by decide) (fun hc3 => ?_) (fun hc3 => ?_)
  · have h := ip hc3 h
    refine so_iconst (v := (0 : Int32)) (pc := 46) hX dX9_door_46 (by decide) ?_
    refine so_istore (pc := 47) hX dX9_door_47 [(5, .int (0 : Int32)), (0, .ref (evA (xV X) 0)), (1, .int v1), (2, .int v2), (3, .int v3), (4, .int v4)] (by rw [hn]; decide) rfl ?_
    refine so_iload (pc := 49) hX dX9_door_49 0 rfl ?_
    refine so_if_ne (pc := 51) hX 57 dX9_door_51 (by decide) (fun hz => absurd hz (by decide)) (fun _ => ?_)
    refine so_bipush (v := (-2 : Int32)) (pc := 54) hX dX9_door_54 (by decide) ?_
    exact so_iretH (pc := 56) hX hR h rfl dX9_door_56
  · have h := iq hc3 h
    refine so_iload_n (pc := 10) hX dX9_door_10 2 rfl ?_
    refine so_iconst (v := (1 : Int32)) (pc := 11) hX dX9_door_11 (by decide) ?_
    refine so_bipush (v := (60 : Int32)) (pc := 12) hX dX9_door_12 (by decide) ?_
    obtain ⟨r5, μ4, hr, h⟩ := obd h
    refine so_callS (As := [.int v2, .int (1 : Int32), .int (60 : Int32)]) (rest := []) (pc := 14) hX dX9_door_14 (c_X9_isFrom hL hr) mw_X9_isFrom ms_X9_isFrom ml_X9_51 rfl rfl (by omega) (by decide) (Nat.le_of_ble_eq_true rfl) ?_
    refine so_if_eq (pc := 17) hX 46 dX9_door_17 (by decide) (fun hc6 => ?_) (fun hc6 => ?_)
    · have h := ip hc6 h
      refine so_iconst (v := (0 : Int32)) (pc := 46) hX dX9_door_46 (by decide) ?_
      refine so_istore (pc := 47) hX dX9_door_47 [(5, .int (0 : Int32)), (0, .ref (evA (xV X) 0)), (1, .int v1), (2, .int v2), (3, .int v3), (4, .int v4)] (by rw [hn]; decide) rfl ?_
      refine so_iload (pc := 49) hX dX9_door_49 0 rfl ?_
      refine so_if_ne (pc := 51) hX 57 dX9_door_51 (by decide) (fun hz => absurd hz (by decide)) (fun _ => ?_)
      refine so_bipush (v := (-2 : Int32)) (pc := 54) hX dX9_door_54 (by decide) ?_
      exact so_iretH (pc := 56) hX hR h rfl dX9_door_56
    · have h := iq hc6 h
      refine so_iload_n (pc := 20) hX dX9_door_20 3 rfl ?_
      refine so_iconst (v := (1 : Int32)) (pc := 21) hX dX9_door_21 (by decide) ?_
      refine so_bipush (v := (60 : Int32)) (pc := 22) hX dX9_door_22 (by decide) ?_
      obtain ⟨r8, μ7, hr, h⟩ := obd h
      refine so_callS (As := [.int v3, .int (1 : Int32), .int (60 : Int32)]) (rest := []) (pc := 24) hX dX9_door_24 (c_X9_isFrom hL hr) mw_X9_isFrom ms_X9_isFrom ml_X9_51 rfl rfl (by omega) (by decide) (Nat.le_of_ble_eq_true rfl) ?_
      refine so_if_eq (pc := 27) hX 46 dX9_door_27 (by decide) (fun hc9 => ?_) (fun hc9 => ?_)
      · have h := ip hc9 h
        refine so_iconst (v := (0 : Int32)) (pc := 46) hX dX9_door_46 (by decide) ?_
        refine so_istore (pc := 47) hX dX9_door_47 [(5, .int (0 : Int32)), (0, .ref (evA (xV X) 0)), (1, .int v1), (2, .int v2), (3, .int v3), (4, .int v4)] (by rw [hn]; decide) rfl ?_
        refine so_iload (pc := 49) hX dX9_door_49 0 rfl ?_
        refine so_if_ne (pc := 51) hX 57 dX9_door_51 (by decide) (fun hz => absurd hz (by decide)) (fun _ => ?_)
        refine so_bipush (v := (-2 : Int32)) (pc := 54) hX dX9_door_54 (by decide) ?_
        exact so_iretH (pc := 56) hX hR h rfl dX9_door_56
      · have h := iq hc9 h
        refine so_iload (pc := 30) hX dX9_door_30 4 rfl ?_
        refine so_iconst (v := (0 : Int32)) (pc := 32) hX dX9_door_32 (by decide) ?_
        refine so_sipush (v := (200 : Int32)) (pc := 33) hX dX9_door_33 (by decide) ?_
        obtain ⟨r11, μ10, hr, h⟩ := obd h
        refine so_callS (As := [.int v4, .int (0 : Int32), .int (200 : Int32)]) (rest := []) (pc := 36) hX dX9_door_36 (c_X9_isFrom hL hr) mw_X9_isFrom ms_X9_isFrom ml_X9_51 rfl rfl (by omega) (by decide) (Nat.le_of_ble_eq_true rfl) ?_
        refine so_if_eq (pc := 39) hX 46 dX9_door_39 (by decide) (fun hc12 => ?_) (fun hc12 => ?_)
        · have h := ip hc12 h
          refine so_iconst (v := (0 : Int32)) (pc := 46) hX dX9_door_46 (by decide) ?_
          refine so_istore (pc := 47) hX dX9_door_47 [(5, .int (0 : Int32)), (0, .ref (evA (xV X) 0)), (1, .int v1), (2, .int v2), (3, .int v3), (4, .int v4)] (by rw [hn]; decide) rfl ?_
          refine so_iload (pc := 49) hX dX9_door_49 0 rfl ?_
          refine so_if_ne (pc := 51) hX 57 dX9_door_51 (by decide) (fun hz => absurd hz (by decide)) (fun _ => ?_)
          refine so_bipush (v := (-2 : Int32)) (pc := 54) hX dX9_door_54 (by decide) ?_
          exact so_iretH (pc := 56) hX hR h rfl dX9_door_56
        · have h := iq hc12 h
          refine so_iconst (v := (1 : Int32)) (pc := 42) hX dX9_door_42 (by decide) ?_
          refine so_goto (pc := 43) hX 47 dX9_door_43 (by decide) ?_
          refine so_istore (pc := 47) hX dX9_door_47 [(5, .int (1 : Int32)), (0, .ref (evA (xV X) 0)), (1, .int v1), (2, .int v2), (3, .int v3), (4, .int v4)] (by rw [hn]; decide) rfl ?_
          refine so_iload (pc := 49) hX dX9_door_49 0 rfl ?_
          refine so_if_ne (pc := 51) hX 57 dX9_door_51 (by decide) (fun _ => ?_) (fun hz => absurd hz (by decide))
          refine so_aload_n (pc := 57) hX dX9_door_57 1 rfl ?_
          refine so_gR (pc := 58) hX 3 dX9_door_58 fl_X9_10 (ekC hL rfl) (erC hL rfl) ?_
          obtain ⟨r14, μ13, hr, h⟩ := obd h
          refine so_callV (As := []) (rest := []) (pc := 61) hX dX9_door_61 (c_X6_readTape hL hr) mw_X6_readTape mv_X6_readTape ml_X9_116 (ekC hL rfl) (by decide) rfl rfl rfl rfl (by omega) (by decide) (Nat.le_of_ble_eq_true rfl) ?_
          refine so_istore (pc := 64) hX dX9_door_64 [(6, .int r14), (5, .int (1 : Int32)), (0, .ref (evA (xV X) 0)), (1, .int v1), (2, .int v2), (3, .int v3), (4, .int v4)] (by rw [hn]; decide) rfl ?_
          refine so_aload_n (pc := 66) hX dX9_door_66 2 rfl ?_
          refine so_gR (pc := 67) hX 1 dX9_door_67 fl_X9_20 (ekC hL rfl) (erC hL rfl) ?_
          refine so_iconst (v := (0 : Int32)) (pc := 70) hX dX9_door_70 (by decide) ?_
          obtain ⟨r16, μ15, hr, h⟩ := obd h
          refine so_callV (As := [.int (0 : Int32)]) (rest := []) (pc := 71) hX dX9_door_71 (c_X7_shorten hL hr) mw_X7_shorten mv_X7_shorten ml_X9_47 (ekC hL rfl) (by decide) rfl rfl rfl rfl (by omega) (by decide) (Nat.le_of_ble_eq_true rfl) ?_
          refine so_pop (pc := 74) hX dX9_door_74 rfl ?_
          refine so_iload (pc := 75) hX dX9_door_75 0 rfl ?_
          refine so_if_ne (pc := 77) hX 82 dX9_door_77 (by decide) (fun hc17 => ?_) (fun hc17 => ?_)
          · have h := iq hc17 h
            refine so_aload_n (pc := 82) hX dX9_door_82 2 rfl ?_
            refine so_gR (pc := 83) hX 6 dX9_door_83 fl_X9_32 (ekC hL rfl) (erC hL rfl) ?_
            refine so_gR (pc := 86) hX 8 dX9_door_86 fl_X9_119 (ekC hL rfl) (erC hL rfl) ?_
            refine so_iload_n (pc := 89) hX dX9_door_89 3 rfl ?_
            obtain ⟨j18, hj19, h⟩ := ob h
            refine so_aald (t0 := 2) (b := (56 + 4 * j18)) (pc := 90) hX dX9_door_90 (ekC hL rfl) (by decide) (by decide) (elC hL rfl) rfl hj19 (erC hL rfl) ?_
            refine so_astore (pc := 91) hX dX9_door_91 [(7, .ref (evA (xV X) (56 + 4 * j18))), (6, .int r14), (5, .int (1 : Int32)), (0, .ref (evA (xV X) 0)), (1, .int v1), (2, .int v2), (3, .int v3), (4, .int v4)] (by rw [hn]; decide) rfl ?_
            refine so_aload (pc := 93) hX dX9_door_93 0 rfl ?_
            refine so_aload_n (pc := 95) hX dX9_door_95 3 rfl ?_
            refine so_gR (pc := 96) hX 3 dX9_door_96 fl_X9_10 (ekC hL rfl) (erC hL rfl) ?_
            refine so_gR (pc := 99) hX 4 dX9_door_99 fl_X9_123 (ekC hL rfl) (erC hL rfl) ?_
            refine so_iload_n (pc := 102) hX dX9_door_102 5 rfl ?_
            refine so_iload_n (pc := 103) hX dX9_door_103 6 rfl ?_
            refine so_iload (pc := 104) hX dX9_door_104 7 rfl ?_
            obtain ⟨μ20, hr, h⟩ := ob h
            refine so_callV (As := [.ref (evA (xV X) 4), .int v2, .int v3, .int v4]) (rest := []) (pc := 106) hX dX9_door_106 (c_X0_begin hL (kE13 (rR_lt hj19)) rfl hr) mw_X0_begin mv_X0_begin ml_X9_127 (ekC hL (kE13 (rR_lt hj19))) (by decide) rfl rfl rfl rfl (by omega) (by decide) (Nat.le_of_ble_eq_true rfl) ?_
            refine so_aload (pc := 109) hX dX9_door_109 0 rfl ?_
            refine so_gR (pc := 111) hX ((56 + 4 * j18) + 1) dX9_door_111 fl_X9_132 (ekC hL (kE13 (rR_lt hj19))) (erC hL (rq_0_0 (kE13 (rR_lt hj19)))) ?_
            obtain ⟨r22, μ21, hr, h⟩ := obd h
            refine so_callV (As := []) (rest := []) (pc := 114) hX dX9_door_114 (c_X1_count hL (kq_0_0 (kE13 (rR_lt hj19))) hr) mw_X1_count mv_X1_count ml_X9_133 (ekC hL (kq_0_0 (kE13 (rR_lt hj19)))) (by decide) rfl rfl rfl rfl (by omega) (by decide) (Nat.le_of_ble_eq_true rfl) ?_
            exact so_iretH (pc := 117) hX hR h rfl dX9_door_117
          · have h := ip hc17 h
            refine so_iconst (v := (-1 : Int32)) (pc := 80) hX dX9_door_80 (by decide) ?_
            exact so_iretH (pc := 81) hX hR h rfl dX9_door_81
set_option maxHeartbeats 4000000 in
set_option maxRecDepth 100000 in
theorem c_X9_fault {l : Launch} {V : Ev} (hL : V.2.2.2 = lyC) {v1 : Int32}  {μ : Mem} {rZ : Int32} {μZ : Mem} (h : f_X9_fault v1 μ = some (rZ, μZ)) : CT l V yX9_fault cX9_fault 2 (some .int) 0 [.ref (evA V 0), .int v1] μ μZ (some (.int rZ)) := by
  refine so_met [(0, .ref (evA V 0)), (1, .int v1)] (by decide) (Nat.le_of_ble_eq_true rfl) (evCn hL) rfl ?_
  intro X hl hV hn hX hR
  subst hl hV
  unfold f_X9_fault at h
  refine so_iload_n (pc := 0) hX dX9_fault_0 1 rfl ?_
  refine so_if_ne (pc := 1) hX 12 dX9_fault_1 (by decide) (fun hc1 => ?_) (fun hc1 => ?_)
  · have h := iq hc1 h
    refine so_iload_n (pc := 12) hX dX9_fault_12 1 rfl ?_
    refine so_iconst (v := (1 : Int32)) (pc := 13) hX dX9_fault_13 (by decide) ?_
    refine so_icmp_ne (pc := 14) hX 27 dX9_fault_14 (by decide) (fun hc2 => ?_) (fun hc2 => ?_)
    · have h := iq hc2 h
      refine so_iconst (v := (-1 : Int32)) (pc := 27) hX dX9_fault_27 (by decide) ?_
      exact so_iretH (pc := 28) hX hR h rfl dX9_fault_28
    · have h := ip hc2 h
      refine so_aload_n (pc := 17) hX dX9_fault_17 0 rfl ?_
      refine so_gR (pc := 18) hX 3 dX9_fault_18 fl_X9_10 (ekC hL rfl) (erC hL rfl) ?_
      refine so_gI (pc := 21) hX dX9_fault_21 fl_X9_142 (ekC hL rfl) ?_
      refine so_goto (pc := 24) hX 28 dX9_fault_24 (by decide) ?_
      exact so_iretH (pc := 28) hX hR h rfl dX9_fault_28
  · have h := ip hc1 h
    refine so_aload_n (pc := 4) hX dX9_fault_4 0 rfl ?_
    refine so_gR (pc := 5) hX 3 dX9_fault_5 fl_X9_10 (ekC hL rfl) (erC hL rfl) ?_
    refine so_gI (pc := 8) hX dX9_fault_8 fl_X9_139 (ekC hL rfl) ?_
    exact so_iretH (pc := 11) hX hR h rfl dX9_fault_11
set_option maxHeartbeats 4000000 in
set_option maxRecDepth 100000 in
theorem c_X9_of {l : Launch} {V : Ev} (hL : V.2.2.2 = lyC) {v1 : Int32} {v2 : Int32}  {μ : Mem} {rZ : Int32} {μZ : Mem} (h : f_X9_of v1 v2 μ = some (rZ, μZ)) : CT l V yX9_of cX9_of 4 (some .int) 4 [.ref (evA V 0), .int v1, .int v2] μ μZ (some (.int rZ)) := by
  refine so_met [(0, .ref (evA V 0)), (1, .int v1), (2, .int v2)] (by decide) (Nat.le_of_ble_eq_true rfl) (evCn hL) rfl ?_
  intro X hl hV hn hX hR
  subst hl hV
  unfold f_X9_of at h
  refine so_aload_n (pc := 0) hX dX9_of_0 0 rfl ?_
  refine so_gR (pc := 1) hX 6 dX9_of_1 fl_X9_32 (ekC hL rfl) (erC hL rfl) ?_
  refine so_iload_n (pc := 4) hX dX9_of_4 1 rfl ?_
  obtain ⟨o2, μ1, hr, h⟩ := obd h
  refine so_callV (As := [.int v1]) (rest := []) (pc := 5) hX dX9_of_5 (c_X8_doorAt hL hr) mw_X8_doorAt mv_X8_doorAt ml_X9_145 (ekC hL rfl) (by decide) rfl rfl rfl rfl (by omega) (by decide) (Nat.le_of_ble_eq_true rfl) ?_
  cases o2 with
  | none =>
    have h := oc_n h
    refine so_astore_nN (pc := 8) hX dX9_of_8 [(3, .null), (0, .ref (evA (xV X) 0)), (1, .int v1), (2, .int v2)] (by rw [hn]; decide) rfl ?_
    refine so_aload_nN (pc := 9) hX dX9_of_9 0 rfl ?_
    refine so_ifnonnullN (pc := 10) hX dX9_of_10 ?_
    refine so_iconst (v := (-1 : Int32)) (pc := 13) hX dX9_of_13 (by decide) ?_
    exact so_iretH (pc := 14) hX hR h rfl dX9_of_14
  | some a3 =>
    have h := oc_s h
    have ha4 := kr_X8_doorAt hr
    refine so_astore_n (pc := 8) hX dX9_of_8 [(3, .ref (evA (xV X) a3)), (0, .ref (evA (xV X) 0)), (1, .int v1), (2, .int v2)] (by rw [hn]; decide) rfl ?_
    refine so_aload_n (pc := 9) hX dX9_of_9 0 rfl ?_
    refine so_ifnonnull (pc := 10) hX 15 dX9_of_10 (by decide) ?_
    refine so_iload_n (pc := 15) hX dX9_of_15 3 rfl ?_
    by_cases hc5 : v2 = (0 : Int32)
    · have h := ip hc5 h
      refine so_tabIn (off := 56) (pc := 16) hX 72 dX9_of_16 (by rw [hc5]; decide) (by rw [hc5]; decide) (by rw [hc5]; rfl) (by decide) ?_
      refine so_aload_n (pc := 72) hX dX9_of_72 0 rfl ?_
      refine so_gR (pc := 73) hX (a3 + 1) dX9_of_73 fl_X9_132 (ekC hL ha4) (erC hL (rq_0_0 ha4)) ?_
      refine so_gI (pc := 76) hX dX9_of_76 fl_X9_149 (ekC hL (kq_0_0 ha4)) ?_
      exact so_iretH (pc := 79) hX hR h rfl dX9_of_79
    · have h := iq hc5 h
      by_cases hc6 : v2 = (1 : Int32)
      · have h := ip hc6 h
        refine so_tabIn (off := 64) (pc := 16) hX 80 dX9_of_16 (by rw [hc6]; decide) (by rw [hc6]; decide) (by rw [hc6]; rfl) (by decide) ?_
        refine so_aload_n (pc := 80) hX dX9_of_80 0 rfl ?_
        refine so_gR (pc := 81) hX (a3 + 1) dX9_of_81 fl_X9_132 (ekC hL ha4) (erC hL (rq_0_0 ha4)) ?_
        refine so_gI (pc := 84) hX dX9_of_84 fl_X9_152 (ekC hL (kq_0_0 ha4)) ?_
        exact so_iretH (pc := 87) hX hR h rfl dX9_of_87
      · have h := iq hc6 h
        by_cases hc7 : v2 = (2 : Int32)
        · have h := ip hc7 h
          refine so_tabIn (off := 72) (pc := 16) hX 88 dX9_of_16 (by rw [hc7]; decide) (by rw [hc7]; decide) (by rw [hc7]; rfl) (by decide) ?_
          refine so_aload_n (pc := 88) hX dX9_of_88 0 rfl ?_
          refine so_gI (pc := 89) hX dX9_of_89 fl_X9_155 (ekC hL ha4) ?_
          exact so_iretH (pc := 92) hX hR h rfl dX9_of_92
        · have h := iq hc7 h
          by_cases hc8 : v2 = (3 : Int32)
          · have h := ip hc8 h
            refine so_tabIn (off := 77) (pc := 16) hX 93 dX9_of_16 (by rw [hc8]; decide) (by rw [hc8]; decide) (by rw [hc8]; rfl) (by decide) ?_
            refine so_aload_n (pc := 93) hX dX9_of_93 0 rfl ?_
            refine so_gR (pc := 94) hX (a3 + 1) dX9_of_94 fl_X9_132 (ekC hL ha4) (erC hL (rq_0_0 ha4)) ?_
            refine so_iconst (v := (2 : Int32)) (pc := 97) hX dX9_of_97 (by decide) ?_
            obtain ⟨r10, μ9, hr, h⟩ := obd h
            refine so_callV (As := [.int (2 : Int32)]) (rest := []) (pc := 98) hX dX9_of_98 (c_X1_countJoints hL (kq_0_0 ha4) hr) mw_X1_countJoints mv_X1_countJoints ml_X9_158 (ekC hL (kq_0_0 ha4)) (by decide) rfl rfl rfl rfl (by omega) (by decide) (Nat.le_of_ble_eq_true rfl) ?_
            exact so_iretH (pc := 101) hX hR h rfl dX9_of_101
          · have h := iq hc8 h
            by_cases hc11 : v2 = (4 : Int32)
            · have h := ip hc11 h
              refine so_tabIn (off := 86) (pc := 16) hX 102 dX9_of_16 (by rw [hc11]; decide) (by rw [hc11]; decide) (by rw [hc11]; rfl) (by decide) ?_
              refine so_aload_n (pc := 102) hX dX9_of_102 0 rfl ?_
              refine so_gR (pc := 103) hX (a3 + 1) dX9_of_103 fl_X9_132 (ekC hL ha4) (erC hL (rq_0_0 ha4)) ?_
              refine so_iconst (v := (1 : Int32)) (pc := 106) hX dX9_of_106 (by decide) ?_
              obtain ⟨r13, μ12, hr, h⟩ := obd h
              refine so_callV (As := [.int (1 : Int32)]) (rest := []) (pc := 107) hX dX9_of_107 (c_X1_countJoints hL (kq_0_0 ha4) hr) mw_X1_countJoints mv_X1_countJoints ml_X9_158 (ekC hL (kq_0_0 ha4)) (by decide) rfl rfl rfl rfl (by omega) (by decide) (Nat.le_of_ble_eq_true rfl) ?_
              exact so_iretH (pc := 110) hX hR h rfl dX9_of_110
            · have h := iq hc11 h
              by_cases hc14 : v2 = (5 : Int32)
              · have h := ip hc14 h
                refine so_tabIn (off := 95) (pc := 16) hX 111 dX9_of_16 (by rw [hc14]; decide) (by rw [hc14]; decide) (by rw [hc14]; rfl) (by decide) ?_
                refine so_aload_n (pc := 111) hX dX9_of_111 0 rfl ?_
                refine so_gR (pc := 112) hX (a3 + 1) dX9_of_112 fl_X9_132 (ekC hL ha4) (erC hL (rq_0_0 ha4)) ?_
                refine so_iconst (v := (0 : Int32)) (pc := 115) hX dX9_of_115 (by decide) ?_
                obtain ⟨r16, μ15, hr, h⟩ := obd h
                refine so_callV (As := [.int (0 : Int32)]) (rest := []) (pc := 116) hX dX9_of_116 (c_X1_countJoints hL (kq_0_0 ha4) hr) mw_X1_countJoints mv_X1_countJoints ml_X9_158 (ekC hL (kq_0_0 ha4)) (by decide) rfl rfl rfl rfl (by omega) (by decide) (Nat.le_of_ble_eq_true rfl) ?_
                exact so_iretH (pc := 119) hX hR h rfl dX9_of_119
              · have h := iq hc14 h
                by_cases hc17 : v2 = (6 : Int32)
                · have h := ip hc17 h
                  refine so_tabIn (off := 104) (pc := 16) hX 120 dX9_of_16 (by rw [hc17]; decide) (by rw [hc17]; decide) (by rw [hc17]; rfl) (by decide) ?_
                  refine so_aload_n (pc := 120) hX dX9_of_120 0 rfl ?_
                  refine so_gI (pc := 121) hX dX9_of_121 fl_X9_161 (ekC hL ha4) ?_
                  exact so_iretH (pc := 124) hX hR h rfl dX9_of_124
                · have h := iq hc17 h
                  by_cases hc18 : v2 = (7 : Int32)
                  · have h := ip hc18 h
                    refine so_tabIn (off := 109) (pc := 16) hX 125 dX9_of_16 (by rw [hc18]; decide) (by rw [hc18]; decide) (by rw [hc18]; rfl) (by decide) ?_
                    refine so_aload_n (pc := 125) hX dX9_of_125 0 rfl ?_
                    refine so_gI (pc := 126) hX dX9_of_126 fl_X9_164 (ekC hL ha4) ?_
                    exact so_iretH (pc := 129) hX hR h rfl dX9_of_129
                  · have h := iq hc18 h
                    by_cases hc19 : v2 = (8 : Int32)
                    · have h := ip hc19 h
                      refine so_tabIn (off := 114) (pc := 16) hX 130 dX9_of_16 (by rw [hc19]; decide) (by rw [hc19]; decide) (by rw [hc19]; rfl) (by decide) ?_
                      refine so_aload_n (pc := 130) hX dX9_of_130 0 rfl ?_
                      refine so_gI (pc := 131) hX dX9_of_131 fl_X9_167 (ekC hL ha4) ?_
                      exact so_iretH (pc := 134) hX hR h rfl dX9_of_134
                    · have h := iq hc19 h
                      by_cases hc20 : v2 = (9 : Int32)
                      · have h := ip hc20 h
                        refine so_tabIn (off := 119) (pc := 16) hX 135 dX9_of_16 (by rw [hc20]; decide) (by rw [hc20]; decide) (by rw [hc20]; rfl) (by decide) ?_
                        refine so_aload_n (pc := 135) hX dX9_of_135 0 rfl ?_
                        refine so_gI (pc := 136) hX dX9_of_136 fl_X9_170 (ekC hL ha4) ?_
                        exact so_iretH (pc := 139) hX hR h rfl dX9_of_139
                      · have h := iq hc20 h
                        refine so_tabOut (pc := 16) hX 140 dX9_of_16 (tabO10 hc5 hc6 hc7 hc8 hc11 hc14 hc17 hc18 hc19 hc20) (by decide) ?_
                        refine so_iconst (v := (-1 : Int32)) (pc := 140) hX dX9_of_140 (by decide) ?_
                        exact so_iretH (pc := 141) hX hR h rfl dX9_of_141
set_option maxHeartbeats 4000000 in
set_option maxRecDepth 100000 in
theorem c_X9_piece {l : Launch} {V : Ev} (hL : V.2.2.2 = lyC) {v1 : Int32} {v2 : Int32} {v3 : Int32}  {μ : Mem} {rZ : Int32} {μZ : Mem} (h : f_X9_piece v1 v2 v3 μ = some (rZ, μZ)) : CT l V yX9_piece cX9_piece 5 (some .int) 2 [.ref (evA V 0), .int v1, .int v2, .int v3] μ μZ (some (.int rZ)) := by
  refine so_met [(0, .ref (evA V 0)), (1, .int v1), (2, .int v2), (3, .int v3)] (by decide) (Nat.le_of_ble_eq_true rfl) (evCn hL) rfl ?_
  intro X hl hV hn hX hR
  subst hl hV
  unfold f_X9_piece at h
  refine so_aload_n (pc := 0) hX dX9_piece_0 0 rfl ?_
  refine so_gR (pc := 1) hX 6 dX9_piece_1 fl_X9_32 (ekC hL rfl) (erC hL rfl) ?_
  refine so_iload_n (pc := 4) hX dX9_piece_4 1 rfl ?_
  obtain ⟨o2, μ1, hr, h⟩ := obd h
  refine so_callV (As := [.int v1]) (rest := []) (pc := 5) hX dX9_piece_5 (c_X8_doorAt hL hr) mw_X8_doorAt mv_X8_doorAt ml_X9_145 (ekC hL rfl) (by decide) rfl rfl rfl rfl (by omega) (by decide) (Nat.le_of_ble_eq_true rfl) ?_
  cases o2 with
  | none =>
    have h := oc_n h
    refine so_astoreN (pc := 8) hX dX9_piece_8 [(4, .null), (0, .ref (evA (xV X) 0)), (1, .int v1), (2, .int v2), (3, .int v3)] (by rw [hn]; decide) rfl ?_
    refine so_aloadN (pc := 10) hX dX9_piece_10 0 rfl ?_
    refine so_ifnullN (pc := 12) hX 28 dX9_piece_12 (by decide) ?_
    refine so_iconst (v := (-1 : Int32)) (pc := 28) hX dX9_piece_28 (by decide) ?_
    exact so_iretH (pc := 29) hX hR h rfl dX9_piece_29
  | some a3 =>
    have h := oc_s h
    have ha4 := kr_X8_doorAt hr
    refine so_astore (pc := 8) hX dX9_piece_8 [(4, .ref (evA (xV X) a3)), (0, .ref (evA (xV X) 0)), (1, .int v1), (2, .int v2), (3, .int v3)] (by rw [hn]; decide) rfl ?_
    refine so_aload (pc := 10) hX dX9_piece_10 0 rfl ?_
    refine so_ifnull (pc := 12) hX dX9_piece_12 ?_
    refine so_aload (pc := 15) hX dX9_piece_15 0 rfl ?_
    refine so_gR (pc := 17) hX (a3 + 1) dX9_piece_17 fl_X9_132 (ekC hL ha4) (erC hL (rq_0_0 ha4)) ?_
    refine so_iload_n (pc := 20) hX dX9_piece_20 3 rfl ?_
    refine so_iload_n (pc := 21) hX dX9_piece_21 4 rfl ?_
    obtain ⟨r6, μ5, hr, h⟩ := obd h
    refine so_callV (As := [.int v2, .int v3]) (rest := []) (pc := 22) hX dX9_piece_22 (c_X1_has hL (kq_0_0 ha4) hr) mw_X1_has mv_X1_has ml_X9_173 (ekC hL (kq_0_0 ha4)) (by decide) rfl rfl rfl rfl (by omega) (by decide) (Nat.le_of_ble_eq_true rfl) ?_
    refine so_if_ne (pc := 25) hX 30 dX9_piece_25 (by decide) (fun hc7 => ?_) (fun hc7 => ?_)
    · have h := iq hc7 h
      refine so_aload (pc := 30) hX dX9_piece_30 0 rfl ?_
      refine so_gR (pc := 32) hX (a3 + 1) dX9_piece_32 fl_X9_132 (ekC hL ha4) (erC hL (rq_0_0 ha4)) ?_
      refine so_iload_n (pc := 35) hX dX9_piece_35 3 rfl ?_
      refine so_iload_n (pc := 36) hX dX9_piece_36 4 rfl ?_
      obtain ⟨r9, μ8, hr, h⟩ := obd h
      refine so_callV (As := [.int v2, .int v3]) (rest := []) (pc := 37) hX dX9_piece_37 (c_X1_cellAt hL (kq_0_0 ha4) hr) mw_X1_cellAt mv_X1_cellAt ml_X9_177 (ekC hL (kq_0_0 ha4)) (by decide) rfl rfl rfl rfl (by omega) (by decide) (Nat.le_of_ble_eq_true rfl) ?_
      exact so_iretH (pc := 40) hX hR h rfl dX9_piece_40
    · have h := ip hc7 h
      refine so_iconst (v := (-1 : Int32)) (pc := 28) hX dX9_piece_28 (by decide) ?_
      exact so_iretH (pc := 29) hX hR h rfl dX9_piece_29
set_option maxHeartbeats 4000000 in
set_option maxRecDepth 100000 in
theorem c_X9_joint {l : Launch} {V : Ev} (hL : V.2.2.2 = lyC) {v1 : Int32} {v2 : Int32} {v3 : Int32} {v4 : Int32}  {μ : Mem} {rZ : Int32} {μZ : Mem} (h : f_X9_joint v1 v2 v3 v4 μ = some (rZ, μZ)) : CT l V yX9_joint cX9_joint 6 (some .int) 3 [.ref (evA V 0), .int v1, .int v2, .int v3, .int v4] μ μZ (some (.int rZ)) := by
  refine so_met [(0, .ref (evA V 0)), (1, .int v1), (2, .int v2), (3, .int v3), (4, .int v4)] (by decide) (Nat.le_of_ble_eq_true rfl) (evCn hL) rfl ?_
  intro X hl hV hn hX hR
  subst hl hV
  unfold f_X9_joint at h
  refine so_aload_n (pc := 0) hX dX9_joint_0 0 rfl ?_
  refine so_gR (pc := 1) hX 6 dX9_joint_1 fl_X9_32 (ekC hL rfl) (erC hL rfl) ?_
  refine so_iload_n (pc := 4) hX dX9_joint_4 1 rfl ?_
  obtain ⟨o2, μ1, hr, h⟩ := obd h
  refine so_callV (As := [.int v1]) (rest := []) (pc := 5) hX dX9_joint_5 (c_X8_doorAt hL hr) mw_X8_doorAt mv_X8_doorAt ml_X9_145 (ekC hL rfl) (by decide) rfl rfl rfl rfl (by omega) (by decide) (Nat.le_of_ble_eq_true rfl) ?_
  cases o2 with
  | none =>
    have h := oc_n h
    refine so_astoreN (pc := 8) hX dX9_joint_8 [(5, .null), (0, .ref (evA (xV X) 0)), (1, .int v1), (2, .int v2), (3, .int v3), (4, .int v4)] (by rw [hn]; decide) rfl ?_
    refine so_aloadN (pc := 10) hX dX9_joint_10 0 rfl ?_
    refine so_ifnonnullN (pc := 12) hX dX9_joint_12 ?_
    refine so_iconst (v := (-1 : Int32)) (pc := 15) hX dX9_joint_15 (by decide) ?_
    refine so_goto (pc := 16) hX 31 dX9_joint_16 (by decide) ?_
    exact so_iretH (pc := 31) hX hR h rfl dX9_joint_31
  | some a3 =>
    have h := oc_s h
    have ha4 := kr_X8_doorAt hr
    refine so_astore (pc := 8) hX dX9_joint_8 [(5, .ref (evA (xV X) a3)), (0, .ref (evA (xV X) 0)), (1, .int v1), (2, .int v2), (3, .int v3), (4, .int v4)] (by rw [hn]; decide) rfl ?_
    refine so_aload (pc := 10) hX dX9_joint_10 0 rfl ?_
    refine so_ifnonnull (pc := 12) hX 19 dX9_joint_12 (by decide) ?_
    refine so_aload (pc := 19) hX dX9_joint_19 0 rfl ?_
    refine so_gR (pc := 21) hX (a3 + 1) dX9_joint_21 fl_X9_132 (ekC hL ha4) (erC hL (rq_0_0 ha4)) ?_
    refine so_iload_n (pc := 24) hX dX9_joint_24 3 rfl ?_
    refine so_iload_n (pc := 25) hX dX9_joint_25 4 rfl ?_
    refine so_iload (pc := 26) hX dX9_joint_26 5 rfl ?_
    obtain ⟨r6, μ5, hr, h⟩ := obd h
    refine so_callV (As := [.int v2, .int v3, .int v4]) (rest := []) (pc := 28) hX dX9_joint_28 (c_X1_jointAt hL (kq_0_0 ha4) hr) mw_X1_jointAt mv_X1_jointAt ml_X9_181 (ekC hL (kq_0_0 ha4)) (by decide) rfl rfl rfl rfl (by omega) (by decide) (Nat.le_of_ble_eq_true rfl) ?_
    exact so_iretH (pc := 31) hX hR h rfl dX9_joint_31
set_option maxHeartbeats 4000000 in
set_option maxRecDepth 100000 in
theorem c_X9_same {l : Launch} {V : Ev} (hL : V.2.2.2 = lyC) {v1 : Int32} {v2 : Int32} {v3 : Int32}  {μ : Mem} {rZ : Int32} {μZ : Mem} (h : f_X9_same v1 v2 v3 μ = some (rZ, μZ)) : CT l V yX9_same cX9_same 6 (some .int) 2 [.ref (evA V 0), .int v1, .int v2, .int v3] μ μZ (some (.int rZ)) := by
  refine so_met [(0, .ref (evA V 0)), (1, .int v1), (2, .int v2), (3, .int v3)] (by decide) (Nat.le_of_ble_eq_true rfl) (evCn hL) rfl ?_
  intro X hl hV hn hX hR
  subst hl hV
  unfold f_X9_same at h
  refine so_aload_n (pc := 0) hX dX9_same_0 0 rfl ?_
  refine so_gR (pc := 1) hX 6 dX9_same_1 fl_X9_32 (ekC hL rfl) (erC hL rfl) ?_
  refine so_iload_n (pc := 4) hX dX9_same_4 1 rfl ?_
  obtain ⟨o2, μ1, hr, h⟩ := obd h
  refine so_callV (As := [.int v1]) (rest := []) (pc := 5) hX dX9_same_5 (c_X8_doorAt hL hr) mw_X8_doorAt mv_X8_doorAt ml_X9_145 (ekC hL rfl) (by decide) rfl rfl rfl rfl (by omega) (by decide) (Nat.le_of_ble_eq_true rfl) ?_
  cases o2 with
  | none =>
    have h := oc_n h
    refine so_astoreN (pc := 8) hX dX9_same_8 [(4, .null), (0, .ref (evA (xV X) 0)), (1, .int v1), (2, .int v2), (3, .int v3)] (by rw [hn]; decide) rfl ?_
    refine so_aload_n (pc := 10) hX dX9_same_10 1 rfl ?_
    refine so_gR (pc := 11) hX 6 dX9_same_11 fl_X9_32 (ekC hL rfl) (erC hL rfl) ?_
    refine so_iload_n (pc := 14) hX dX9_same_14 3 rfl ?_
    obtain ⟨o6, μ5, hr, h⟩ := obd h
    refine so_callV (As := [.int v2]) (rest := []) (pc := 15) hX dX9_same_15 (c_X8_doorAt hL hr) mw_X8_doorAt mv_X8_doorAt ml_X9_145 (ekC hL rfl) (by decide) rfl rfl rfl rfl (by omega) (by decide) (Nat.le_of_ble_eq_true rfl) ?_
    cases o6 with
    | none =>
      have h := oc_n h
      refine so_astoreN (pc := 18) hX dX9_same_18 [(5, .null), (4, .null), (0, .ref (evA (xV X) 0)), (1, .int v1), (2, .int v2), (3, .int v3)] (by rw [hn]; decide) rfl ?_
      refine so_aloadN (pc := 20) hX dX9_same_20 1 rfl ?_
      refine so_ifnullN (pc := 22) hX 39 dX9_same_22 (by decide) ?_
      refine so_iconst (v := (-1 : Int32)) (pc := 39) hX dX9_same_39 (by decide) ?_
      exact so_iretH (pc := 40) hX hR h rfl dX9_same_40
    | some a7 =>
      have h := oc_s h
      have ha8 := kr_X8_doorAt hr
      refine so_astore (pc := 18) hX dX9_same_18 [(5, .ref (evA (xV X) a7)), (4, .null), (0, .ref (evA (xV X) 0)), (1, .int v1), (2, .int v2), (3, .int v3)] (by rw [hn]; decide) rfl ?_
      refine so_aloadN (pc := 20) hX dX9_same_20 1 rfl ?_
      refine so_ifnullN (pc := 22) hX 39 dX9_same_22 (by decide) ?_
      refine so_iconst (v := (-1 : Int32)) (pc := 39) hX dX9_same_39 (by decide) ?_
      exact so_iretH (pc := 40) hX hR h rfl dX9_same_40
  | some a3 =>
    have h := oc_s h
    have ha4 := kr_X8_doorAt hr
    refine so_astore (pc := 8) hX dX9_same_8 [(4, .ref (evA (xV X) a3)), (0, .ref (evA (xV X) 0)), (1, .int v1), (2, .int v2), (3, .int v3)] (by rw [hn]; decide) rfl ?_
    refine so_aload_n (pc := 10) hX dX9_same_10 1 rfl ?_
    refine so_gR (pc := 11) hX 6 dX9_same_11 fl_X9_32 (ekC hL rfl) (erC hL rfl) ?_
    refine so_iload_n (pc := 14) hX dX9_same_14 3 rfl ?_
    obtain ⟨o10, μ9, hr, h⟩ := obd h
    refine so_callV (As := [.int v2]) (rest := []) (pc := 15) hX dX9_same_15 (c_X8_doorAt hL hr) mw_X8_doorAt mv_X8_doorAt ml_X9_145 (ekC hL rfl) (by decide) rfl rfl rfl rfl (by omega) (by decide) (Nat.le_of_ble_eq_true rfl) ?_
    cases o10 with
    | none =>
      have h := oc_n h
      refine so_astoreN (pc := 18) hX dX9_same_18 [(5, .null), (4, .ref (evA (xV X) a3)), (0, .ref (evA (xV X) 0)), (1, .int v1), (2, .int v2), (3, .int v3)] (by rw [hn]; decide) rfl ?_
      refine so_aload (pc := 20) hX dX9_same_20 1 rfl ?_
      refine so_ifnull (pc := 22) hX dX9_same_22 ?_
      refine so_aloadN (pc := 25) hX dX9_same_25 0 rfl ?_
      refine so_ifnullN (pc := 27) hX 39 dX9_same_27 (by decide) ?_
      refine so_iconst (v := (-1 : Int32)) (pc := 39) hX dX9_same_39 (by decide) ?_
      exact so_iretH (pc := 40) hX hR h rfl dX9_same_40
    | some a11 =>
      have h := oc_s h
      have ha12 := kr_X8_doorAt hr
      refine so_astore (pc := 18) hX dX9_same_18 [(5, .ref (evA (xV X) a11)), (4, .ref (evA (xV X) a3)), (0, .ref (evA (xV X) 0)), (1, .int v1), (2, .int v2), (3, .int v3)] (by rw [hn]; decide) rfl ?_
      refine so_aload (pc := 20) hX dX9_same_20 1 rfl ?_
      refine so_ifnull (pc := 22) hX dX9_same_22 ?_
      refine so_aload (pc := 25) hX dX9_same_25 0 rfl ?_
      refine so_ifnull (pc := 27) hX dX9_same_27 ?_
      refine so_iload_n (pc := 30) hX dX9_same_30 5 rfl ?_
      refine so_iconst (v := (0 : Int32)) (pc := 31) hX dX9_same_31 (by decide) ?_
      refine so_iconst (v := (2 : Int32)) (pc := 32) hX dX9_same_32 (by decide) ?_
      obtain ⟨r14, μ13, hr, h⟩ := obd h
      refine so_callS (As := [.int v3, .int (0 : Int32), .int (2 : Int32)]) (rest := []) (pc := 33) hX dX9_same_33 (c_X9_isFrom hL hr) mw_X9_isFrom ms_X9_isFrom ml_X9_51 rfl rfl (by omega) (by decide) (Nat.le_of_ble_eq_true rfl) ?_
      refine so_if_ne (pc := 36) hX 41 dX9_same_36 (by decide) (fun hc15 => ?_) (fun hc15 => ?_)
      · have h := iq hc15 h
        refine so_aload (pc := 41) hX dX9_same_41 1 rfl ?_
        refine so_gR (pc := 43) hX (a3 + 1) dX9_same_43 fl_X9_132 (ekC hL ha4) (erC hL (rq_0_0 ha4)) ?_
        refine so_aload (pc := 46) hX dX9_same_46 0 rfl ?_
        refine so_gR (pc := 48) hX (a11 + 1) dX9_same_48 fl_X9_132 (ekC hL ha12) (erC hL (rq_0_0 ha12)) ?_
        refine so_iload_n (pc := 51) hX dX9_same_51 5 rfl ?_
        refine so_if_eq (pc := 52) hX 59 dX9_same_52 (by decide) (fun hc16 => ?_) (fun hc16 => ?_)
        · have h := ip hc16 h
          refine so_iconst (v := (0 : Int32)) (pc := 59) hX dX9_same_59 (by decide) ?_
          refine so_iload_n (pc := 60) hX dX9_same_60 5 rfl ?_
          refine so_iconst (v := (2 : Int32)) (pc := 61) hX dX9_same_61 (by decide) ?_
          refine so_icmp_ne (pc := 62) hX 69 dX9_same_62 (by decide) (fun hc17 => ?_) (fun hc17 => ?_)
          · have h := iq hc17 h
            refine so_iconst (v := (0 : Int32)) (pc := 69) hX dX9_same_69 (by decide) ?_
            obtain ⟨r22, μ21, hr, h⟩ := obd h
            refine so_callV (As := [.ref (evA (xV X) (a11 + 1)), .int (0 : Int32), .int (0 : Int32)]) (rest := []) (pc := 70) hX dX9_same_70 (c_X1_isLike hL (kq_0_0 ha4) (kq_0_0 ha12) hr) mw_X1_isLike mv_X1_isLike ml_X9_185 (ekC hL (kq_0_0 ha4)) (by decide) rfl rfl rfl rfl (by omega) (by decide) (Nat.le_of_ble_eq_true rfl) ?_
            refine so_if_eq (pc := 73) hX 80 dX9_same_73 (by decide) (fun hc23 => ?_) (fun hc23 => ?_)
            · have h := ip hc23 h
              refine so_iconst (v := (0 : Int32)) (pc := 80) hX dX9_same_80 (by decide) ?_
              exact so_iretH (pc := 81) hX hR h rfl dX9_same_81
            · have h := iq hc23 h
              refine so_iconst (v := (1 : Int32)) (pc := 76) hX dX9_same_76 (by decide) ?_
              refine so_goto (pc := 77) hX 81 dX9_same_77 (by decide) ?_
              exact so_iretH (pc := 81) hX hR h rfl dX9_same_81
          · have h := ip hc17 h
            refine so_iconst (v := (1 : Int32)) (pc := 65) hX dX9_same_65 (by decide) ?_
            refine so_goto (pc := 66) hX 70 dX9_same_66 (by decide) ?_
            obtain ⟨r19, μ18, hr, h⟩ := obd h
            refine so_callV (As := [.ref (evA (xV X) (a11 + 1)), .int (0 : Int32), .int (1 : Int32)]) (rest := []) (pc := 70) hX dX9_same_70 (c_X1_isLike hL (kq_0_0 ha4) (kq_0_0 ha12) hr) mw_X1_isLike mv_X1_isLike ml_X9_185 (ekC hL (kq_0_0 ha4)) (by decide) rfl rfl rfl rfl (by omega) (by decide) (Nat.le_of_ble_eq_true rfl) ?_
            refine so_if_eq (pc := 73) hX 80 dX9_same_73 (by decide) (fun hc20 => ?_) (fun hc20 => ?_)
            · have h := ip hc20 h
              refine so_iconst (v := (0 : Int32)) (pc := 80) hX dX9_same_80 (by decide) ?_
              exact so_iretH (pc := 81) hX hR h rfl dX9_same_81
            · have h := iq hc20 h
              refine so_iconst (v := (1 : Int32)) (pc := 76) hX dX9_same_76 (by decide) ?_
              refine so_goto (pc := 77) hX 81 dX9_same_77 (by decide) ?_
              exact so_iretH (pc := 81) hX hR h rfl dX9_same_81
        · have h := iq hc16 h
          refine so_iconst (v := (1 : Int32)) (pc := 55) hX dX9_same_55 (by decide) ?_
          refine so_goto (pc := 56) hX 60 dX9_same_56 (by decide) ?_
          refine so_iload_n (pc := 60) hX dX9_same_60 5 rfl ?_
          refine so_iconst (v := (2 : Int32)) (pc := 61) hX dX9_same_61 (by decide) ?_
          refine so_icmp_ne (pc := 62) hX 69 dX9_same_62 (by decide) (fun hc24 => ?_) (fun hc24 => ?_)
          · have h := iq hc24 h
            refine so_iconst (v := (0 : Int32)) (pc := 69) hX dX9_same_69 (by decide) ?_
            obtain ⟨r29, μ28, hr, h⟩ := obd h
            refine so_callV (As := [.ref (evA (xV X) (a11 + 1)), .int (1 : Int32), .int (0 : Int32)]) (rest := []) (pc := 70) hX dX9_same_70 (c_X1_isLike hL (kq_0_0 ha4) (kq_0_0 ha12) hr) mw_X1_isLike mv_X1_isLike ml_X9_185 (ekC hL (kq_0_0 ha4)) (by decide) rfl rfl rfl rfl (by omega) (by decide) (Nat.le_of_ble_eq_true rfl) ?_
            refine so_if_eq (pc := 73) hX 80 dX9_same_73 (by decide) (fun hc30 => ?_) (fun hc30 => ?_)
            · have h := ip hc30 h
              refine so_iconst (v := (0 : Int32)) (pc := 80) hX dX9_same_80 (by decide) ?_
              exact so_iretH (pc := 81) hX hR h rfl dX9_same_81
            · have h := iq hc30 h
              refine so_iconst (v := (1 : Int32)) (pc := 76) hX dX9_same_76 (by decide) ?_
              refine so_goto (pc := 77) hX 81 dX9_same_77 (by decide) ?_
              exact so_iretH (pc := 81) hX hR h rfl dX9_same_81
          · have h := ip hc24 h
            refine so_iconst (v := (1 : Int32)) (pc := 65) hX dX9_same_65 (by decide) ?_
            refine so_goto (pc := 66) hX 70 dX9_same_66 (by decide) ?_
            obtain ⟨r26, μ25, hr, h⟩ := obd h
            refine so_callV (As := [.ref (evA (xV X) (a11 + 1)), .int (1 : Int32), .int (1 : Int32)]) (rest := []) (pc := 70) hX dX9_same_70 (c_X1_isLike hL (kq_0_0 ha4) (kq_0_0 ha12) hr) mw_X1_isLike mv_X1_isLike ml_X9_185 (ekC hL (kq_0_0 ha4)) (by decide) rfl rfl rfl rfl (by omega) (by decide) (Nat.le_of_ble_eq_true rfl) ?_
            refine so_if_eq (pc := 73) hX 80 dX9_same_73 (by decide) (fun hc27 => ?_) (fun hc27 => ?_)
            · have h := ip hc27 h
              refine so_iconst (v := (0 : Int32)) (pc := 80) hX dX9_same_80 (by decide) ?_
              exact so_iretH (pc := 81) hX hR h rfl dX9_same_81
            · have h := iq hc27 h
              refine so_iconst (v := (1 : Int32)) (pc := 76) hX dX9_same_76 (by decide) ?_
              refine so_goto (pc := 77) hX 81 dX9_same_77 (by decide) ?_
              exact so_iretH (pc := 81) hX hR h rfl dX9_same_81
      · have h := ip hc15 h
        refine so_iconst (v := (-1 : Int32)) (pc := 39) hX dX9_same_39 (by decide) ?_
        exact so_iretH (pc := 40) hX hR h rfl dX9_same_40
set_option maxHeartbeats 4000000 in
set_option maxRecDepth 100000 in
theorem c_X9_why {l : Launch} {V : Ev} (hL : V.2.2.2 = lyC) {v1 : Int32} {v2 : Int32} {v3 : Int32} {v4 : Int32} {v5 : Int32}  {μ : Mem} {rZ : Int32} {μZ : Mem} (h : f_X9_why v1 v2 v3 v4 v5 μ = some (rZ, μZ)) : CT l V yX9_why cX9_why 8 (some .int) 5 [.ref (evA V 0), .int v1, .int v2, .int v3, .int v4, .int v5] μ μZ (some (.int rZ)) := by
  refine so_met [(0, .ref (evA V 0)), (1, .int v1), (2, .int v2), (3, .int v3), (4, .int v4), (5, .int v5)] (by decide) (Nat.le_of_ble_eq_true rfl) (evCn hL) rfl ?_
  intro X hl hV hn hX hR
  subst hl hV
  unfold f_X9_why at h
  refine so_aload_n (pc := 0) hX dX9_why_0 0 rfl ?_
  refine so_gR (pc := 1) hX 6 dX9_why_1 fl_X9_32 (ekC hL rfl) (erC hL rfl) ?_
  refine so_iload_n (pc := 4) hX dX9_why_4 1 rfl ?_
  obtain ⟨o2, μ1, hr, h⟩ := obd h
  refine so_callV (As := [.int v1]) (rest := []) (pc := 5) hX dX9_why_5 (c_X8_doorAt hL hr) mw_X8_doorAt mv_X8_doorAt ml_X9_145 (ekC hL rfl) (by decide) rfl rfl rfl rfl (by omega) (by decide) (Nat.le_of_ble_eq_true rfl) ?_
  cases o2 with
  | none =>
    have h := oc_n h
    refine so_astoreN (pc := 8) hX dX9_why_8 [(6, .null), (0, .ref (evA (xV X) 0)), (1, .int v1), (2, .int v2), (3, .int v3), (4, .int v4), (5, .int v5)] (by rw [hn]; decide) rfl ?_
    refine so_aload_n (pc := 10) hX dX9_why_10 1 rfl ?_
    refine so_gR (pc := 11) hX 6 dX9_why_11 fl_X9_32 (ekC hL rfl) (erC hL rfl) ?_
    refine so_iload_n (pc := 14) hX dX9_why_14 3 rfl ?_
    obtain ⟨o6, μ5, hr, h⟩ := obd h
    refine so_callV (As := [.int v2]) (rest := []) (pc := 15) hX dX9_why_15 (c_X8_logAt hL hr) mw_X8_logAt mv_X8_logAt ml_X9_70 (ekC hL rfl) (by decide) rfl rfl rfl rfl (by omega) (by decide) (Nat.le_of_ble_eq_true rfl) ?_
    cases o6 with
    | none =>
      have h := oc_n h
      refine so_astoreN (pc := 18) hX dX9_why_18 [(7, .null), (6, .null), (0, .ref (evA (xV X) 0)), (1, .int v1), (2, .int v2), (3, .int v3), (4, .int v4), (5, .int v5)] (by rw [hn]; decide) rfl ?_
      refine so_aloadN (pc := 20) hX dX9_why_20 1 rfl ?_
      refine so_ifnullN (pc := 22) hX 30 dX9_why_22 (by decide) ?_
      refine so_iconst (v := (-1 : Int32)) (pc := 30) hX dX9_why_30 (by decide) ?_
      exact so_iretH (pc := 31) hX hR h rfl dX9_why_31
    | some a7 =>
      have h := oc_s h
      have ha8 := kr_X8_logAt hr
      refine so_astore (pc := 18) hX dX9_why_18 [(7, .ref (evA (xV X) a7)), (6, .null), (0, .ref (evA (xV X) 0)), (1, .int v1), (2, .int v2), (3, .int v3), (4, .int v4), (5, .int v5)] (by rw [hn]; decide) rfl ?_
      refine so_aloadN (pc := 20) hX dX9_why_20 1 rfl ?_
      refine so_ifnullN (pc := 22) hX 30 dX9_why_22 (by decide) ?_
      refine so_iconst (v := (-1 : Int32)) (pc := 30) hX dX9_why_30 (by decide) ?_
      exact so_iretH (pc := 31) hX hR h rfl dX9_why_31
  | some a3 =>
    have h := oc_s h
    have ha4 := kr_X8_doorAt hr
    refine so_astore (pc := 8) hX dX9_why_8 [(6, .ref (evA (xV X) a3)), (0, .ref (evA (xV X) 0)), (1, .int v1), (2, .int v2), (3, .int v3), (4, .int v4), (5, .int v5)] (by rw [hn]; decide) rfl ?_
    refine so_aload_n (pc := 10) hX dX9_why_10 1 rfl ?_
    refine so_gR (pc := 11) hX 6 dX9_why_11 fl_X9_32 (ekC hL rfl) (erC hL rfl) ?_
    refine so_iload_n (pc := 14) hX dX9_why_14 3 rfl ?_
    obtain ⟨o10, μ9, hr, h⟩ := obd h
    refine so_callV (As := [.int v2]) (rest := []) (pc := 15) hX dX9_why_15 (c_X8_logAt hL hr) mw_X8_logAt mv_X8_logAt ml_X9_70 (ekC hL rfl) (by decide) rfl rfl rfl rfl (by omega) (by decide) (Nat.le_of_ble_eq_true rfl) ?_
    cases o10 with
    | none =>
      have h := oc_n h
      refine so_astoreN (pc := 18) hX dX9_why_18 [(7, .null), (6, .ref (evA (xV X) a3)), (0, .ref (evA (xV X) 0)), (1, .int v1), (2, .int v2), (3, .int v3), (4, .int v4), (5, .int v5)] (by rw [hn]; decide) rfl ?_
      refine so_aload (pc := 20) hX dX9_why_20 1 rfl ?_
      refine so_ifnull (pc := 22) hX dX9_why_22 ?_
      refine so_aloadN (pc := 25) hX dX9_why_25 0 rfl ?_
      refine so_ifnonnullN (pc := 27) hX dX9_why_27 ?_
      refine so_iconst (v := (-1 : Int32)) (pc := 30) hX dX9_why_30 (by decide) ?_
      exact so_iretH (pc := 31) hX hR h rfl dX9_why_31
    | some a11 =>
      have h := oc_s h
      have ha12 := kr_X8_logAt hr
      refine so_astore (pc := 18) hX dX9_why_18 [(7, .ref (evA (xV X) a11)), (6, .ref (evA (xV X) a3)), (0, .ref (evA (xV X) 0)), (1, .int v1), (2, .int v2), (3, .int v3), (4, .int v4), (5, .int v5)] (by rw [hn]; decide) rfl ?_
      refine so_aload (pc := 20) hX dX9_why_20 1 rfl ?_
      refine so_ifnull (pc := 22) hX dX9_why_22 ?_
      refine so_aload (pc := 25) hX dX9_why_25 0 rfl ?_
      refine so_ifnonnull (pc := 27) hX 32 dX9_why_27 (by decide) ?_
      refine so_aload_n (pc := 32) hX dX9_why_32 2 rfl ?_
      refine so_gR (pc := 33) hX 6 dX9_why_33 fl_X9_32 (ekC hL rfl) (erC hL rfl) ?_
      refine so_gR (pc := 36) hX 9 dX9_why_36 fl_X9_189 (ekC hL rfl) (erC hL rfl) ?_
      refine so_aload (pc := 39) hX dX9_why_39 1 rfl ?_
      refine so_aload (pc := 41) hX dX9_why_41 0 rfl ?_
      refine so_iload_n (pc := 43) hX dX9_why_43 5 rfl ?_
      refine so_iload (pc := 44) hX dX9_why_44 6 rfl ?_
      refine so_iload (pc := 46) hX dX9_why_46 7 rfl ?_
      obtain ⟨r14, μ13, hr, h⟩ := obd h
      refine so_callV (As := [.ref (evA (xV X) a3), .ref (evA (xV X) a11), .int v3, .int v4, .int v5]) (rest := []) (pc := 48) hX dX9_why_48 (c_X2_reason hL ha4 ha12 hr) mw_X2_reason mv_X2_reason ml_X9_193 (ekC hL rfl) (by decide) rfl rfl rfl rfl (by omega) (by decide) (Nat.le_of_ble_eq_true rfl) ?_
      exact so_iretH (pc := 51) hX hR h rfl dX9_why_51
set_option maxHeartbeats 4000000 in
set_option maxRecDepth 100000 in
theorem c_X9_place {l : Launch} {V : Ev} (hL : V.2.2.2 = lyC) {v1 : Int32} {v2 : Int32} {v3 : Int32}  {μ : Mem} {rZ : Int32} {μZ : Mem} (h : f_X9_place v1 v2 v3 μ = some (rZ, μZ)) : CT l V yX9_place cX9_place 7 (some .int) 4 [.ref (evA V 0), .int v1, .int v2, .int v3] μ μZ (some (.int rZ)) := by
  refine so_met [(0, .ref (evA V 0)), (1, .int v1), (2, .int v2), (3, .int v3)] (by decide) (Nat.le_of_ble_eq_true rfl) (evCn hL) rfl ?_
  intro X hl hV hn hX hR
  subst hl hV
  unfold f_X9_place at h
  refine so_aload_n (pc := 0) hX dX9_place_0 0 rfl ?_
  refine so_gR (pc := 1) hX 6 dX9_place_1 fl_X9_32 (ekC hL rfl) (erC hL rfl) ?_
  refine so_iload_n (pc := 4) hX dX9_place_4 1 rfl ?_
  obtain ⟨o2, μ1, hr, h⟩ := obd h
  refine so_callV (As := [.int v1]) (rest := []) (pc := 5) hX dX9_place_5 (c_X8_doorAt hL hr) mw_X8_doorAt mv_X8_doorAt ml_X9_145 (ekC hL rfl) (by decide) rfl rfl rfl rfl (by omega) (by decide) (Nat.le_of_ble_eq_true rfl) ?_
  cases o2 with
  | none =>
    have h := oc_n h
    refine so_astoreN (pc := 8) hX dX9_place_8 [(4, .null), (0, .ref (evA (xV X) 0)), (1, .int v1), (2, .int v2), (3, .int v3)] (by rw [hn]; decide) rfl ?_
    refine so_aload_n (pc := 10) hX dX9_place_10 1 rfl ?_
    refine so_gR (pc := 11) hX 6 dX9_place_11 fl_X9_32 (ekC hL rfl) (erC hL rfl) ?_
    refine so_iload_n (pc := 14) hX dX9_place_14 3 rfl ?_
    obtain ⟨o6, μ5, hr, h⟩ := obd h
    refine so_callV (As := [.int v2]) (rest := []) (pc := 15) hX dX9_place_15 (c_X8_logAt hL hr) mw_X8_logAt mv_X8_logAt ml_X9_70 (ekC hL rfl) (by decide) rfl rfl rfl rfl (by omega) (by decide) (Nat.le_of_ble_eq_true rfl) ?_
    cases o6 with
    | none =>
      have h := oc_n h
      refine so_astoreN (pc := 18) hX dX9_place_18 [(5, .null), (4, .null), (0, .ref (evA (xV X) 0)), (1, .int v1), (2, .int v2), (3, .int v3)] (by rw [hn]; decide) rfl ?_
      refine so_aloadN (pc := 20) hX dX9_place_20 1 rfl ?_
      refine so_ifnullN (pc := 22) hX 39 dX9_place_22 (by decide) ?_
      refine so_iconst (v := (-1 : Int32)) (pc := 39) hX dX9_place_39 (by decide) ?_
      exact so_iretH (pc := 40) hX hR h rfl dX9_place_40
    | some a7 =>
      have h := oc_s h
      have ha8 := kr_X8_logAt hr
      refine so_astore (pc := 18) hX dX9_place_18 [(5, .ref (evA (xV X) a7)), (4, .null), (0, .ref (evA (xV X) 0)), (1, .int v1), (2, .int v2), (3, .int v3)] (by rw [hn]; decide) rfl ?_
      refine so_aloadN (pc := 20) hX dX9_place_20 1 rfl ?_
      refine so_ifnullN (pc := 22) hX 39 dX9_place_22 (by decide) ?_
      refine so_iconst (v := (-1 : Int32)) (pc := 39) hX dX9_place_39 (by decide) ?_
      exact so_iretH (pc := 40) hX hR h rfl dX9_place_40
  | some a3 =>
    have h := oc_s h
    have ha4 := kr_X8_doorAt hr
    refine so_astore (pc := 8) hX dX9_place_8 [(4, .ref (evA (xV X) a3)), (0, .ref (evA (xV X) 0)), (1, .int v1), (2, .int v2), (3, .int v3)] (by rw [hn]; decide) rfl ?_
    refine so_aload_n (pc := 10) hX dX9_place_10 1 rfl ?_
    refine so_gR (pc := 11) hX 6 dX9_place_11 fl_X9_32 (ekC hL rfl) (erC hL rfl) ?_
    refine so_iload_n (pc := 14) hX dX9_place_14 3 rfl ?_
    obtain ⟨o10, μ9, hr, h⟩ := obd h
    refine so_callV (As := [.int v2]) (rest := []) (pc := 15) hX dX9_place_15 (c_X8_logAt hL hr) mw_X8_logAt mv_X8_logAt ml_X9_70 (ekC hL rfl) (by decide) rfl rfl rfl rfl (by omega) (by decide) (Nat.le_of_ble_eq_true rfl) ?_
    cases o10 with
    | none =>
      have h := oc_n h
      refine so_astoreN (pc := 18) hX dX9_place_18 [(5, .null), (4, .ref (evA (xV X) a3)), (0, .ref (evA (xV X) 0)), (1, .int v1), (2, .int v2), (3, .int v3)] (by rw [hn]; decide) rfl ?_
      refine so_aload (pc := 20) hX dX9_place_20 1 rfl ?_
      refine so_ifnull (pc := 22) hX dX9_place_22 ?_
      refine so_aloadN (pc := 25) hX dX9_place_25 0 rfl ?_
      refine so_ifnullN (pc := 27) hX 39 dX9_place_27 (by decide) ?_
      refine so_iconst (v := (-1 : Int32)) (pc := 39) hX dX9_place_39 (by decide) ?_
      exact so_iretH (pc := 40) hX hR h rfl dX9_place_40
    | some a11 =>
      have h := oc_s h
      have ha12 := kr_X8_logAt hr
      refine so_astore (pc := 18) hX dX9_place_18 [(5, .ref (evA (xV X) a11)), (4, .ref (evA (xV X) a3)), (0, .ref (evA (xV X) 0)), (1, .int v1), (2, .int v2), (3, .int v3)] (by rw [hn]; decide) rfl ?_
      refine so_aload (pc := 20) hX dX9_place_20 1 rfl ?_
      refine so_ifnull (pc := 22) hX dX9_place_22 ?_
      refine so_aload (pc := 25) hX dX9_place_25 0 rfl ?_
      refine so_ifnull (pc := 27) hX dX9_place_27 ?_
      refine so_iload_n (pc := 30) hX dX9_place_30 5 rfl ?_
      refine so_iconst (v := (0 : Int32)) (pc := 31) hX dX9_place_31 (by decide) ?_
      refine so_iconst (v := (2 : Int32)) (pc := 32) hX dX9_place_32 (by decide) ?_
      obtain ⟨r14, μ13, hr, h⟩ := obd h
      refine so_callS (As := [.int v3, .int (0 : Int32), .int (2 : Int32)]) (rest := []) (pc := 33) hX dX9_place_33 (c_X9_isFrom hL hr) mw_X9_isFrom ms_X9_isFrom ml_X9_51 rfl rfl (by omega) (by decide) (Nat.le_of_ble_eq_true rfl) ?_
      refine so_if_ne (pc := 36) hX 41 dX9_place_36 (by decide) (fun hc15 => ?_) (fun hc15 => ?_)
      · have h := iq hc15 h
        refine so_aload_n (pc := 41) hX dX9_place_41 2 rfl ?_
        refine so_gR (pc := 42) hX 6 dX9_place_42 fl_X9_32 (ekC hL rfl) (erC hL rfl) ?_
        refine so_gR (pc := 45) hX 9 dX9_place_45 fl_X9_189 (ekC hL rfl) (erC hL rfl) ?_
        refine so_astore (pc := 48) hX dX9_place_48 [(6, .ref (evA (xV X) 9)), (5, .ref (evA (xV X) a11)), (4, .ref (evA (xV X) a3)), (0, .ref (evA (xV X) 0)), (1, .int v1), (2, .int v2), (3, .int v3)] (by rw [hn]; decide) rfl ?_
        refine so_aload (pc := 50) hX dX9_place_50 0 rfl ?_
        refine so_aload (pc := 52) hX dX9_place_52 2 rfl ?_
        refine so_aload (pc := 54) hX dX9_place_54 1 rfl ?_
        obtain ⟨r17, μ16, hr, h⟩ := obd h
        refine so_callV (As := [.ref (evA (xV X) a3), .ref (evA (xV X) a11)]) (rest := []) (pc := 56) hX dX9_place_56 (c_X2_find hL ha4 ha12 hr) mw_X2_find mv_X2_find ml_X9_199 (ekC hL rfl) (by decide) rfl rfl rfl rfl (by omega) (by decide) (Nat.le_of_ble_eq_true rfl) ?_
        refine so_if_ne (pc := 59) hX 64 dX9_place_59 (by decide) (fun hc18 => ?_) (fun hc18 => ?_)
        · have h := iq hc18 h
          refine so_iload_n (pc := 64) hX dX9_place_64 6 rfl ?_
          refine so_if_ne (pc := 65) hX 74 dX9_place_65 (by decide) (fun hc19 => ?_) (fun hc19 => ?_)
          · have h := iq hc19 h
            refine so_iload_n (pc := 74) hX dX9_place_74 6 rfl ?_
            refine so_iconst (v := (1 : Int32)) (pc := 75) hX dX9_place_75 (by decide) ?_
            refine so_icmp_ne (pc := 76) hX 87 dX9_place_76 (by decide) (fun hc20 => ?_) (fun hc20 => ?_)
            · have h := iq hc20 h
              refine so_aload (pc := 87) hX dX9_place_87 0 rfl ?_
              refine so_gI (pc := 89) hX dX9_place_89 fl_X9_205 (ekC hL rfl) ?_
              exact so_iretH (pc := 92) hX hR h rfl dX9_place_92
            · have h := ip hc20 h
              refine so_aload (pc := 79) hX dX9_place_79 0 rfl ?_
              refine so_gI (pc := 81) hX dX9_place_81 fl_X9_204 (ekC hL rfl) ?_
              refine so_goto (pc := 84) hX 92 dX9_place_84 (by decide) ?_
              exact so_iretH (pc := 92) hX hR h rfl dX9_place_92
          · have h := ip hc19 h
            refine so_aload (pc := 68) hX dX9_place_68 0 rfl ?_
            refine so_gI (pc := 70) hX dX9_place_70 fl_X9_203 (ekC hL rfl) ?_
            exact so_iretH (pc := 73) hX hR h rfl dX9_place_73
        · have h := ip hc18 h
          refine so_iconst (v := (-1 : Int32)) (pc := 62) hX dX9_place_62 (by decide) ?_
          exact so_iretH (pc := 63) hX hR h rfl dX9_place_63
      · have h := ip hc15 h
        refine so_iconst (v := (-1 : Int32)) (pc := 39) hX dX9_place_39 (by decide) ?_
        exact so_iretH (pc := 40) hX hR h rfl dX9_place_40
set_option maxHeartbeats 4000000 in
set_option maxRecDepth 100000 in
theorem c_X9_make {l : Launch} {V : Ev} (hL : V.2.2.2 = lyC) {v1 : Int32} {v2 : Int32}  {μ : Mem} {rZ : Int32} {μZ : Mem} (h : f_X9_make v1 v2 μ = some (rZ, μZ)) : CT l V yX9_make cX9_make 4 (some .int) 5 [.ref (evA V 0), .int v1, .int v2] μ μZ (some (.int rZ)) := by
  refine so_met [(0, .ref (evA V 0)), (1, .int v1), (2, .int v2)] (by decide) (Nat.le_of_ble_eq_true rfl) (evCn hL) rfl ?_
  intro X hl hV hn hX hR
  subst hl hV
  unfold f_X9_make at h
  refine so_aload_n (pc := 0) hX dX9_make_0 0 rfl ?_
  refine so_gR (pc := 1) hX 6 dX9_make_1 fl_X9_32 (ekC hL rfl) (erC hL rfl) ?_
  refine so_iload_n (pc := 4) hX dX9_make_4 1 rfl ?_
  obtain ⟨o2, μ1, hr, h⟩ := obd h
  refine so_callV (As := [.int v1]) (rest := []) (pc := 5) hX dX9_make_5 (c_X8_doorAt hL hr) mw_X8_doorAt mv_X8_doorAt ml_X9_145 (ekC hL rfl) (by decide) rfl rfl rfl rfl (by omega) (by decide) (Nat.le_of_ble_eq_true rfl) ?_
  cases o2 with
  | none =>
    have h := oc_n h
    refine so_astore_nN (pc := 8) hX dX9_make_8 [(3, .null), (0, .ref (evA (xV X) 0)), (1, .int v1), (2, .int v2)] (by rw [hn]; decide) rfl ?_
    refine so_aload_nN (pc := 9) hX dX9_make_9 0 rfl ?_
    refine so_ifnullN (pc := 10) hX 32 dX9_make_10 (by decide) ?_
    refine so_iconst (v := (-1 : Int32)) (pc := 32) hX dX9_make_32 (by decide) ?_
    exact so_iretH (pc := 33) hX hR h rfl dX9_make_33
  | some a3 =>
    have h := oc_s h
    have ha4 := kr_X8_doorAt hr
    refine so_astore_n (pc := 8) hX dX9_make_8 [(3, .ref (evA (xV X) a3)), (0, .ref (evA (xV X) 0)), (1, .int v1), (2, .int v2)] (by rw [hn]; decide) rfl ?_
    refine so_aload_n (pc := 9) hX dX9_make_9 0 rfl ?_
    refine so_ifnull (pc := 10) hX dX9_make_10 ?_
    refine so_aload_n (pc := 13) hX dX9_make_13 0 rfl ?_
    obtain ⟨r6, μ5, hr, h⟩ := obd h
    refine so_callV (As := []) (rest := []) (pc := 14) hX dX9_make_14 (c_X0_isMade hL ha4 hr) mw_X0_isMade mv_X0_isMade ml_X9_206 (ekC hL ha4) (by decide) rfl rfl rfl rfl (by omega) (by decide) (Nat.le_of_ble_eq_true rfl) ?_
    refine so_if_ne (pc := 17) hX 32 dX9_make_17 (by decide) (fun hc7 => ?_) (fun hc7 => ?_)
    · have h := iq hc7 h
      refine so_iconst (v := (-1 : Int32)) (pc := 32) hX dX9_make_32 (by decide) ?_
      exact so_iretH (pc := 33) hX hR h rfl dX9_make_33
    · have h := ip hc7 h
      refine so_aload_n (pc := 20) hX dX9_make_20 1 rfl ?_
      refine so_gR (pc := 21) hX 6 dX9_make_21 fl_X9_32 (ekC hL rfl) (erC hL rfl) ?_
      refine so_aload_n (pc := 24) hX dX9_make_24 0 rfl ?_
      refine so_iload_n (pc := 25) hX dX9_make_25 3 rfl ?_
      obtain ⟨r9, μ8, hr, h⟩ := obd h
      refine so_callV (As := [.ref (evA (xV X) a3), .int v2]) (rest := []) (pc := 26) hX dX9_make_26 (c_X8_makeIn hL ha4 hr) mw_X8_makeIn mv_X8_makeIn ml_X9_209 (ekC hL rfl) (by decide) rfl rfl rfl rfl (by omega) (by decide) (Nat.le_of_ble_eq_true rfl) ?_
      refine so_if_ne (pc := 29) hX 34 dX9_make_29 (by decide) (fun hc10 => ?_) (fun hc10 => ?_)
      · have h := iq hc10 h
        refine so_aload_n (pc := 34) hX dX9_make_34 0 rfl ?_
        refine so_gR (pc := 35) hX (a3 + 1) dX9_make_35 fl_X9_132 (ekC hL ha4) (erC hL (rq_0_0 ha4)) ?_
        obtain ⟨r12, μ11, hr, h⟩ := obd h
        refine so_callV (As := []) (rest := []) (pc := 38) hX dX9_make_38 (c_X1_count hL (kq_0_0 ha4) hr) mw_X1_count mv_X1_count ml_X9_133 (ekC hL (kq_0_0 ha4)) (by decide) rfl rfl rfl rfl (by omega) (by decide) (Nat.le_of_ble_eq_true rfl) ?_
        exact so_iretH (pc := 41) hX hR h rfl dX9_make_41
      · have h := ip hc10 h
        refine so_iconst (v := (-1 : Int32)) (pc := 32) hX dX9_make_32 (by decide) ?_
        exact so_iretH (pc := 33) hX hR h rfl dX9_make_33
set_option maxHeartbeats 4000000 in
set_option maxRecDepth 100000 in
theorem c_X9_plan {l : Launch} {V : Ev} (hL : V.2.2.2 = lyC)   {μ : Mem} {rZ : Int32} {μZ : Mem} (h : f_X9_plan  μ = some (rZ, μZ)) : CT l V yX9_plan cX9_plan 1 (some .int) 22 [.ref (evA V 0)] μ μZ (some (.int rZ)) := by
  refine so_met [(0, .ref (evA V 0))] (by decide) (Nat.le_of_ble_eq_true rfl) (evCn hL) rfl ?_
  intro X hl hV hn hX hR
  subst hl hV
  unfold f_X9_plan at h
  refine so_aload_n (pc := 0) hX dX9_plan_0 0 rfl ?_
  refine so_gR (pc := 1) hX 88 dX9_plan_1 fl_X9_24 (ekC hL rfl) (erC hL rfl) ?_
  obtain ⟨r2, μ1, hr, h⟩ := obd h
  refine so_callV (As := []) (rest := []) (pc := 4) hX dX9_plan_4 (c_X5_tell hL hr) mw_X5_tell mv_X5_tell ml_X9_213 (ekC hL rfl) (by decide) rfl rfl rfl rfl (by omega) (by decide) (Nat.le_of_ble_eq_true rfl) ?_
  exact so_iretH (pc := 7) hX hR h rfl dX9_plan_7
set_option maxHeartbeats 4000000 in
set_option maxRecDepth 100000 in
theorem c_X9_planned {l : Launch} {V : Ev} (hL : V.2.2.2 = lyC) {v1 : Int32}  {μ : Mem} {rZ : Int32} {μZ : Mem} (h : f_X9_planned v1 μ = some (rZ, μZ)) : CT l V yX9_planned cX9_planned 2 (some .int) 1 [.ref (evA V 0), .int v1] μ μZ (some (.int rZ)) := by
  refine so_met [(0, .ref (evA V 0)), (1, .int v1)] (by decide) (Nat.le_of_ble_eq_true rfl) (evCn hL) rfl ?_
  intro X hl hV hn hX hR
  subst hl hV
  unfold f_X9_planned at h
  refine so_iload_n (pc := 0) hX dX9_planned_0 1 rfl ?_
  refine so_iconst (v := (0 : Int32)) (pc := 1) hX dX9_planned_1 (by decide) ?_
  refine so_bipush (v := (7 : Int32)) (pc := 2) hX dX9_planned_2 (by decide) ?_
  obtain ⟨r2, μ1, hr, h⟩ := obd h
  refine so_callS (As := [.int v1, .int (0 : Int32), .int (7 : Int32)]) (rest := []) (pc := 4) hX dX9_planned_4 (c_X9_isFrom hL hr) mw_X9_isFrom ms_X9_isFrom ml_X9_51 rfl rfl (by omega) (by decide) (Nat.le_of_ble_eq_true rfl) ?_
  refine so_if_eq (pc := 7) hX 22 dX9_planned_7 (by decide) (fun hc3 => ?_) (fun hc3 => ?_)
  · have h := ip hc3 h
    refine so_iconst (v := (-1 : Int32)) (pc := 22) hX dX9_planned_22 (by decide) ?_
    exact so_iretH (pc := 23) hX hR h rfl dX9_planned_23
  · have h := iq hc3 h
    refine so_aload_n (pc := 10) hX dX9_planned_10 0 rfl ?_
    refine so_gR (pc := 11) hX 88 dX9_planned_11 fl_X9_24 (ekC hL rfl) (erC hL rfl) ?_
    refine so_gR (pc := 14) hX 89 dX9_planned_14 fl_X9_216 (ekC hL rfl) (erC hL rfl) ?_
    refine so_iload_n (pc := 17) hX dX9_planned_17 1 rfl ?_
    obtain ⟨e4, hr, h⟩ := ob h
    refine so_iald (pc := 18) hX dX9_planned_18 (ekC hL rfl) (elC hL rfl) hr ?_
    refine so_goto (pc := 19) hX 23 dX9_planned_19 (by decide) ?_
    exact so_iretH (pc := 23) hX hR h rfl dX9_planned_23
set_option maxHeartbeats 4000000 in
set_option maxRecDepth 100000 in
theorem c_X9_free {l : Launch} {V : Ev} (hL : V.2.2.2 = lyC) {v1 : Int32}  {μ : Mem} {rZ : Int32} {μZ : Mem} (h : f_X9_free v1 μ = some (rZ, μZ)) : CT l V yX9_free cX9_free 3 (some .boolean) 4 [.ref (evA V 0), .int v1] μ μZ (some (.int rZ)) := by
  refine so_met [(0, .ref (evA V 0)), (1, .int v1)] (by decide) (Nat.le_of_ble_eq_true rfl) (evCn hL) rfl ?_
  intro X hl hV hn hX hR
  subst hl hV
  unfold f_X9_free at h
  refine so_aload_n (pc := 0) hX dX9_free_0 0 rfl ?_
  refine so_gR (pc := 1) hX 6 dX9_free_1 fl_X9_32 (ekC hL rfl) (erC hL rfl) ?_
  refine so_iload_n (pc := 4) hX dX9_free_4 1 rfl ?_
  obtain ⟨o2, μ1, hr, h⟩ := obd h
  refine so_callV (As := [.int v1]) (rest := []) (pc := 5) hX dX9_free_5 (c_X8_doorAt hL hr) mw_X8_doorAt mv_X8_doorAt ml_X9_145 (ekC hL rfl) (by decide) rfl rfl rfl rfl (by omega) (by decide) (Nat.le_of_ble_eq_true rfl) ?_
  cases o2 with
  | none =>
    have h := oc_n h
    refine so_astore_nN (pc := 8) hX dX9_free_8 [(2, .null), (0, .ref (evA (xV X) 0)), (1, .int v1)] (by rw [hn]; decide) rfl ?_
    refine so_aload_nN (pc := 9) hX dX9_free_9 0 rfl ?_
    refine so_ifnullN (pc := 10) hX 20 dX9_free_10 (by decide) ?_
    refine so_iconst (v := (0 : Int32)) (pc := 20) hX dX9_free_20 (by decide) ?_
    exact so_iretH (pc := 21) hX hR h (by decide) dX9_free_21
  | some a3 =>
    have h := oc_s h
    have ha4 := kr_X8_doorAt hr
    refine so_astore_n (pc := 8) hX dX9_free_8 [(2, .ref (evA (xV X) a3)), (0, .ref (evA (xV X) 0)), (1, .int v1)] (by rw [hn]; decide) rfl ?_
    refine so_aload_n (pc := 9) hX dX9_free_9 0 rfl ?_
    refine so_ifnull (pc := 10) hX dX9_free_10 ?_
    refine so_aload_n (pc := 13) hX dX9_free_13 0 rfl ?_
    obtain ⟨r6, μ5, hr, h⟩ := obd h
    refine so_callV (As := []) (rest := []) (pc := 14) hX dX9_free_14 (c_X0_isMade hL ha4 hr) mw_X0_isMade mv_X0_isMade ml_X9_206 (ekC hL ha4) (by decide) rfl rfl rfl rfl (by omega) (by decide) (Nat.le_of_ble_eq_true rfl) ?_
    refine so_if_ne (pc := 17) hX 22 dX9_free_17 (by decide) (fun hc7 => ?_) (fun hc7 => ?_)
    · have h := iq hc7 h
      refine so_aload_n (pc := 22) hX dX9_free_22 1 rfl ?_
      refine so_gR (pc := 23) hX 6 dX9_free_23 fl_X9_32 (ekC hL rfl) (erC hL rfl) ?_
      refine so_aload_n (pc := 26) hX dX9_free_26 0 rfl ?_
      obtain ⟨μ8, hr, h⟩ := ob h
      refine so_callV (As := [.ref (evA (xV X) a3)]) (rest := []) (pc := 27) hX dX9_free_27 (c_X8_takeBack hL ha4 hr) mw_X8_takeBack mv_X8_takeBack ml_X9_219 (ekC hL rfl) (by decide) rfl rfl rfl rfl (by omega) (by decide) (Nat.le_of_ble_eq_true rfl) ?_
      refine so_iconst (v := (1 : Int32)) (pc := 30) hX dX9_free_30 (by decide) ?_
      exact so_iretH (pc := 31) hX hR h (by decide) dX9_free_31
    · have h := ip hc7 h
      refine so_iconst (v := (0 : Int32)) (pc := 20) hX dX9_free_20 (by decide) ?_
      exact so_iretH (pc := 21) hX hR h (by decide) dX9_free_21
set_option maxHeartbeats 4000000 in
set_option maxRecDepth 100000 in
theorem c_X10_isIn {l : Launch} {V : Ev} (hL : V.2.2.2 = lyM) {v0 : Int32} {v1 : Int32} {v2 : Int32}  {μ : Mem} {rZ : Int32} {μZ : Mem} (h : f_X10_isIn v0 v1 v2 μ = some (rZ, μZ)) : CT l V yX10_isIn cX10_isIn 3 (some .boolean) 0 [.int v0, .int v1, .int v2] μ μZ (some (.int rZ)) := by
  refine so_met [(0, .int v0), (1, .int v1), (2, .int v2)] (by decide) (Nat.le_of_ble_eq_true rfl) (evMn hL) rfl ?_
  intro X hl hV hn hX hR
  subst hl hV
  unfold f_X10_isIn at h
  refine so_iload_n (pc := 0) hX dX10_isIn_0 0 rfl ?_
  refine so_iload_n (pc := 1) hX dX10_isIn_1 1 rfl ?_
  refine so_icmp_lt (pc := 2) hX 14 dX10_isIn_2 (by decide) (fun hc1 => ?_) (fun hc1 => ?_)
  · have h := ip hc1 h
    refine so_iconst (v := (0 : Int32)) (pc := 14) hX dX10_isIn_14 (by decide) ?_
    exact so_iretH (pc := 15) hX hR h (by decide) dX10_isIn_15
  · have h := iq hc1 h
    refine so_iload_n (pc := 5) hX dX10_isIn_5 0 rfl ?_
    refine so_iload_n (pc := 6) hX dX10_isIn_6 2 rfl ?_
    refine so_icmp_gt (pc := 7) hX 14 dX10_isIn_7 (by decide) (fun hc2 => ?_) (fun hc2 => ?_)
    · have h := ip hc2 h
      refine so_iconst (v := (0 : Int32)) (pc := 14) hX dX10_isIn_14 (by decide) ?_
      exact so_iretH (pc := 15) hX hR h (by decide) dX10_isIn_15
    · have h := iq hc2 h
      refine so_iconst (v := (1 : Int32)) (pc := 10) hX dX10_isIn_10 (by decide) ?_
      refine so_goto (pc := 11) hX 15 dX10_isIn_11 (by decide) ?_
      exact so_iretH (pc := 15) hX hR h (by decide) dX10_isIn_15
set_option maxHeartbeats 4000000 in
set_option maxRecDepth 100000 in
theorem c_X10_isLog {l : Launch} {V : Ev} (hL : V.2.2.2 = lyM) {v1 : Int32}  {μ : Mem} {rZ : Int32} {μZ : Mem} (h : f_X10_isLog v1 μ = some (rZ, μZ)) : CT l V yX10_isLog cX10_isLog 2 (some .boolean) 0 [.ref (evA V 0), .int v1] μ μZ (some (.int rZ)) := by
  refine so_met [(0, .ref (evA V 0)), (1, .int v1)] (by decide) (Nat.le_of_ble_eq_true rfl) (evMn hL) rfl ?_
  intro X hl hV hn hX hR
  subst hl hV
  unfold f_X10_isLog at h
  refine so_iload_n (pc := 0) hX dX10_isLog_0 1 rfl ?_
  refine so_if_lt (pc := 1) hX 22 dX10_isLog_1 (by decide) (fun hc1 => ?_) (fun hc1 => ?_)
  · have h := ip hc1 h
    refine so_iconst (v := (0 : Int32)) (pc := 22) hX dX10_isLog_22 (by decide) ?_
    exact so_iretH (pc := 23) hX hR h (by decide) dX10_isLog_23
  · have h := iq hc1 h
    refine so_iload_n (pc := 4) hX dX10_isLog_4 1 rfl ?_
    refine so_iconst (v := (3 : Int32)) (pc := 5) hX dX10_isLog_5 (by decide) ?_
    refine so_icmp_ge (pc := 6) hX 22 dX10_isLog_6 (by decide) (fun hc2 => ?_) (fun hc2 => ?_)
    · have h := ip hc2 h
      refine so_iconst (v := (0 : Int32)) (pc := 22) hX dX10_isLog_22 (by decide) ?_
      exact so_iretH (pc := 23) hX hR h (by decide) dX10_isLog_23
    · have h := iq hc2 h
      refine so_aload_n (pc := 9) hX dX10_isLog_9 0 rfl ?_
      refine so_gR (pc := 10) hX 1 dX10_isLog_10 fl_X10_7 (ekM hL rfl) (erM hL rfl) ?_
      refine so_iload_n (pc := 13) hX dX10_isLog_13 1 rfl ?_
      obtain ⟨e3, hr, h⟩ := ob h
      refine so_iald (pc := 14) hX dX10_isLog_14 (ekM hL rfl) (elM hL rfl) hr ?_
      refine so_if_le (pc := 15) hX 22 dX10_isLog_15 (by decide) (fun hc4 => ?_) (fun hc4 => ?_)
      · have h := ip hc4 h
        refine so_iconst (v := (0 : Int32)) (pc := 22) hX dX10_isLog_22 (by decide) ?_
        exact so_iretH (pc := 23) hX hR h (by decide) dX10_isLog_23
      · have h := iq hc4 h
        refine so_iconst (v := (1 : Int32)) (pc := 18) hX dX10_isLog_18 (by decide) ?_
        refine so_goto (pc := 19) hX 23 dX10_isLog_19 (by decide) ?_
        exact so_iretH (pc := 23) hX hR h (by decide) dX10_isLog_23
