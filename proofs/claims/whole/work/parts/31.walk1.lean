set_option maxHeartbeats 4000000 in
set_option maxRecDepth 100000 in
theorem c_X4_isFlawed {l : Launch} {V : Ev} (hL : V.2.2.2 = lyC) {a0 : Nat} {v1 : Int32} {v2 : Int32} {v3 : Int32} {v4 : Int32} {v5 : Int32} (ka0 : kdC a0 = 4) {μ : Mem} {rZ : Int32} {μZ : Mem} (h : f_X4_isFlawed a0 v1 v2 v3 v4 v5 μ = some (rZ, μZ)) : CT l V yX4_isFlawed cX4_isFlawed 6 (some .boolean) 2 [.ref (evA V a0), .int v1, .int v2, .int v3, .int v4, .int v5] μ μZ (some (.int rZ)) := by
  refine so_met [(0, .ref (evA V a0)), (1, .int v1), (2, .int v2), (3, .int v3), (4, .int v4), (5, .int v5)] (by decide) (Nat.le_of_ble_eq_true rfl) (evCn hL) rfl ?_
  intro X hl hV hn hX hR
  subst hl hV
  unfold f_X4_isFlawed at h
  refine so_aload_n (pc := 0) hX dX4_isFlawed_0 0 rfl ?_
  refine so_gR (pc := 1) hX (a0 + 3) dX4_isFlawed_1 fl_X4_21 (ekC hL ka0) (erC hL (rq_4_10 ka0)) ?_
  refine so_iload_n (pc := 4) hX dX4_isFlawed_4 1 rfl ?_
  refine so_iload_n (pc := 5) hX dX4_isFlawed_5 3 rfl ?_
  refine so_iload (pc := 6) hX dX4_isFlawed_6 5 rfl ?_
  refine so_iload_n (pc := 8) hX dX4_isFlawed_8 2 rfl ?_
  refine so_iload (pc := 9) hX dX4_isFlawed_9 4 rfl ?_
  obtain ⟨r2, μ1, hr, h⟩ := obd h
  refine so_callS (As := [.int v2, .int v4]) (rest := [.int v5, .int v3, .int v1, .ref (evA (xV X) (a0 + 3))]) (pc := 11) hX dX4_isFlawed_11 (c_X4_mask hL hr) mw_X4_mask ms_X4_mask ml_X4_105 rfl rfl (by omega) (by decide) (Nat.le_of_ble_eq_true rfl) ?_
  obtain ⟨r4, μ3, hr, h⟩ := obd h
  refine so_callS (As := [.ref (evA (xV X) (a0 + 3)), .int v1, .int v3, .int v5, .long r2]) (rest := []) (pc := 14) hX dX4_isFlawed_14 (c_X4_meets hL (kq_4_10 ka0) (nq_4_10 ka0) hr) mw_X4_meets ms_X4_meets ml_X4_113 rfl rfl (by omega) (by decide) (Nat.le_of_ble_eq_true rfl) ?_
  exact so_zretH (pc := 17) hX hR h dX4_isFlawed_17
set_option maxHeartbeats 4000000 in
set_option maxRecDepth 100000 in
theorem c_X4_isCut {l : Launch} {V : Ev} (hL : V.2.2.2 = lyC) {a0 : Nat} {v1 : Int32} {v2 : Int32} {v3 : Int32} {v4 : Int32} {v5 : Int32} (ka0 : kdC a0 = 4) {μ : Mem} {rZ : Int32} {μZ : Mem} (h : f_X4_isCut a0 v1 v2 v3 v4 v5 μ = some (rZ, μZ)) : CT l V yX4_isCut cX4_isCut 6 (some .boolean) 2 [.ref (evA V a0), .int v1, .int v2, .int v3, .int v4, .int v5] μ μZ (some (.int rZ)) := by
  refine so_met [(0, .ref (evA V a0)), (1, .int v1), (2, .int v2), (3, .int v3), (4, .int v4), (5, .int v5)] (by decide) (Nat.le_of_ble_eq_true rfl) (evCn hL) rfl ?_
  intro X hl hV hn hX hR
  subst hl hV
  unfold f_X4_isCut at h
  refine so_aload_n (pc := 0) hX dX4_isCut_0 0 rfl ?_
  refine so_gR (pc := 1) hX (a0 + 4) dX4_isCut_1 fl_X4_25 (ekC hL ka0) (erC hL (rq_4_11 ka0)) ?_
  refine so_iload_n (pc := 4) hX dX4_isCut_4 1 rfl ?_
  refine so_iload_n (pc := 5) hX dX4_isCut_5 3 rfl ?_
  refine so_iload (pc := 6) hX dX4_isCut_6 5 rfl ?_
  refine so_iload_n (pc := 8) hX dX4_isCut_8 2 rfl ?_
  refine so_iload (pc := 9) hX dX4_isCut_9 4 rfl ?_
  obtain ⟨r2, μ1, hr, h⟩ := obd h
  refine so_callS (As := [.int v2, .int v4]) (rest := [.int v5, .int v3, .int v1, .ref (evA (xV X) (a0 + 4))]) (pc := 11) hX dX4_isCut_11 (c_X4_mask hL hr) mw_X4_mask ms_X4_mask ml_X4_105 rfl rfl (by omega) (by decide) (Nat.le_of_ble_eq_true rfl) ?_
  obtain ⟨r4, μ3, hr, h⟩ := obd h
  refine so_callS (As := [.ref (evA (xV X) (a0 + 4)), .int v1, .int v3, .int v5, .long r2]) (rest := []) (pc := 14) hX dX4_isCut_14 (c_X4_meets hL (kq_4_11 ka0) (nq_4_11 ka0) hr) mw_X4_meets ms_X4_meets ml_X4_113 rfl rfl (by omega) (by decide) (Nat.le_of_ble_eq_true rfl) ?_
  exact so_zretH (pc := 17) hX hR h dX4_isCut_17
set_option maxHeartbeats 4000000 in
set_option maxRecDepth 100000 in
theorem c_X2_reasonOfCut {l : Launch} {V : Ev} (hL : V.2.2.2 = lyC) {a0 : Nat} {a1 : Nat} {v2 : Int64} {v4 : Int64} {v6 : Int32} (ka0 : kdC a0 = 0) (ka1 : kdC a1 = 4) {μ : Mem} {rZ : Int32} {μZ : Mem} (h : f_X2_reasonOfCut a0 a1 v2 v4 v6 μ = some (rZ, μZ)) : CT l V yX2_reasonOfCut cX2_reasonOfCut 9 (some .int) 3 [.ref (evA V a0), .ref (evA V a1), .long v2, .long v4, .int v6] μ μZ (some (.int rZ)) := by
  refine so_met [(0, .ref (evA V a0)), (1, .ref (evA V a1)), (2, .long v2), (4, .long v4), (6, .int v6)] (by decide) (Nat.le_of_ble_eq_true rfl) (evCn hL) rfl ?_
  intro X hl hV hn hX hR
  subst hl hV
  unfold f_X2_reasonOfCut at h
  refine so_aload_n (pc := 0) hX dX2_reasonOfCut_0 1 rfl ?_
  refine so_lload_n (pc := 1) hX dX2_reasonOfCut_1 2 rfl ?_
  obtain ⟨r2, μ1, hr, h⟩ := obd h
  refine so_callV (As := [.long v2]) (rest := []) (pc := 2) hX dX2_reasonOfCut_2 (c_X4_hasLeaf hL ka1 hr) mw_X4_hasLeaf mv_X4_hasLeaf ml_X2_49 (ekC hL ka1) (by decide) rfl rfl rfl rfl (by omega) (by decide) (Nat.le_of_ble_eq_true rfl) ?_
  refine so_if_ne (pc := 5) hX 10 dX2_reasonOfCut_5 (by decide) (fun hc3 => ?_) (fun hc3 => ?_)
  · have h := iq hc3 h
    refine so_lload_n (pc := 10) hX dX2_reasonOfCut_10 2 rfl ?_
    refine so_l2i (pc := 11) hX dX2_reasonOfCut_11 ?_
    refine so_istore (pc := 12) hX dX2_reasonOfCut_12 [(7, .int (Int64.toInt32 v2)), (0, .ref (evA (xV X) a0)), (1, .ref (evA (xV X) a1)), (2, .long v2), (4, .long v4), (6, .int v6)] (by rw [hn]; decide) rfl ?_
    refine so_aload_n (pc := 14) hX dX2_reasonOfCut_14 2 rfl ?_
    refine so_iload (pc := 15) hX dX2_reasonOfCut_15 0 rfl ?_
    refine so_iload (pc := 17) hX dX2_reasonOfCut_17 5 rfl ?_
    refine so_lload (pc := 19) hX dX2_reasonOfCut_19 4 rfl ?_
    refine so_aload_n (pc := 21) hX dX2_reasonOfCut_21 1 rfl ?_
    refine so_gI (pc := 22) hX dX2_reasonOfCut_22 fl_X2_55 (ekC hL ka0) ?_
    refine so_aload_n (pc := 25) hX dX2_reasonOfCut_25 1 rfl ?_
    refine so_gI (pc := 26) hX dX2_reasonOfCut_26 fl_X2_40 (ekC hL ka0) ?_
    obtain ⟨r5, μ4, hr, h⟩ := obd h
    refine so_callV (As := [.int (Int64.toInt32 v2), .int v6, .long v4, .int (μ1.1 a0 3), .int (μ1.1 a0 4)]) (rest := []) (pc := 29) hX dX2_reasonOfCut_29 (c_X4_holds hL ka1 hr) mw_X4_holds mv_X4_holds ml_X2_56 (ekC hL ka1) (by decide) rfl rfl rfl rfl (by omega) (by decide) (Nat.le_of_ble_eq_true rfl) ?_
    refine so_if_ne (pc := 32) hX 37 dX2_reasonOfCut_32 (by decide) (fun hc6 => ?_) (fun hc6 => ?_)
    · have h := iq hc6 h
      refine so_lload (pc := 37) hX dX2_reasonOfCut_37 4 rfl ?_
      refine so_l2i (pc := 39) hX dX2_reasonOfCut_39 ?_
      refine so_istore (pc := 40) hX dX2_reasonOfCut_40 [(8, .int (Int64.toInt32 v4)), (7, .int (Int64.toInt32 v2)), (0, .ref (evA (xV X) a0)), (1, .ref (evA (xV X) a1)), (2, .long v2), (4, .long v4), (6, .int v6)] (by rw [hn]; decide) rfl ?_
      refine so_aload_n (pc := 42) hX dX2_reasonOfCut_42 3 rfl ?_
      refine so_iload (pc := 43) hX dX2_reasonOfCut_43 1 rfl ?_
      refine so_iload (pc := 45) hX dX2_reasonOfCut_45 6 rfl ?_
      refine so_iload (pc := 47) hX dX2_reasonOfCut_47 0 rfl ?_
      refine so_aload_n (pc := 49) hX dX2_reasonOfCut_49 2 rfl ?_
      refine so_gI (pc := 50) hX dX2_reasonOfCut_50 fl_X2_55 (ekC hL ka0) ?_
      refine so_aload_n (pc := 53) hX dX2_reasonOfCut_53 2 rfl ?_
      refine so_gI (pc := 54) hX dX2_reasonOfCut_54 fl_X2_40 (ekC hL ka0) ?_
      obtain ⟨r8, μ7, hr, h⟩ := obd h
      refine so_callV (As := [.int (Int64.toInt32 v2), .int v6, .int (Int64.toInt32 v4), .int (μ4.1 a0 3), .int (μ4.1 a0 4)]) (rest := []) (pc := 57) hX dX2_reasonOfCut_57 (c_X4_isFlawed hL ka1 hr) mw_X4_isFlawed mv_X4_isFlawed ml_X2_60 (ekC hL ka1) (by decide) rfl rfl rfl rfl (by omega) (by decide) (Nat.le_of_ble_eq_true rfl) ?_
      refine so_if_eq (pc := 60) hX 65 dX2_reasonOfCut_60 (by decide) (fun hc9 => ?_) (fun hc9 => ?_)
      · have h := ip hc9 h
        refine so_aload_n (pc := 65) hX dX2_reasonOfCut_65 3 rfl ?_
        refine so_iload (pc := 66) hX dX2_reasonOfCut_66 1 rfl ?_
        refine so_iload (pc := 68) hX dX2_reasonOfCut_68 6 rfl ?_
        refine so_iload (pc := 70) hX dX2_reasonOfCut_70 0 rfl ?_
        refine so_aload_n (pc := 72) hX dX2_reasonOfCut_72 2 rfl ?_
        refine so_gI (pc := 73) hX dX2_reasonOfCut_73 fl_X2_55 (ekC hL ka0) ?_
        refine so_aload_n (pc := 76) hX dX2_reasonOfCut_76 2 rfl ?_
        refine so_gI (pc := 77) hX dX2_reasonOfCut_77 fl_X2_40 (ekC hL ka0) ?_
        obtain ⟨r11, μ10, hr, h⟩ := obd h
        refine so_callV (As := [.int (Int64.toInt32 v2), .int v6, .int (Int64.toInt32 v4), .int (μ7.1 a0 3), .int (μ7.1 a0 4)]) (rest := []) (pc := 80) hX dX2_reasonOfCut_80 (c_X4_isCut hL ka1 hr) mw_X4_isCut mv_X4_isCut ml_X2_64 (ekC hL ka1) (by decide) rfl rfl rfl rfl (by omega) (by decide) (Nat.le_of_ble_eq_true rfl) ?_
        refine so_if_eq (pc := 83) hX 90 dX2_reasonOfCut_83 (by decide) (fun hc12 => ?_) (fun hc12 => ?_)
        · have h := ip hc12 h
          refine so_iconst (v := (0 : Int32)) (pc := 90) hX dX2_reasonOfCut_90 (by decide) ?_
          exact so_iretH (pc := 91) hX hR h rfl dX2_reasonOfCut_91
        · have h := iq hc12 h
          refine so_iconst (v := (4 : Int32)) (pc := 86) hX dX2_reasonOfCut_86 (by decide) ?_
          refine so_goto (pc := 87) hX 91 dX2_reasonOfCut_87 (by decide) ?_
          exact so_iretH (pc := 91) hX hR h rfl dX2_reasonOfCut_91
      · have h := iq hc9 h
        refine so_iconst (v := (3 : Int32)) (pc := 63) hX dX2_reasonOfCut_63 (by decide) ?_
        exact so_iretH (pc := 64) hX hR h rfl dX2_reasonOfCut_64
    · have h := ip hc6 h
      refine so_iconst (v := (2 : Int32)) (pc := 35) hX dX2_reasonOfCut_35 (by decide) ?_
      exact so_iretH (pc := 36) hX hR h rfl dX2_reasonOfCut_36
  · have h := ip hc3 h
    refine so_iconst (v := (1 : Int32)) (pc := 8) hX dX2_reasonOfCut_8 (by decide) ?_
    exact so_iretH (pc := 9) hX hR h rfl dX2_reasonOfCut_9
set_option maxHeartbeats 4000000 in
set_option maxRecDepth 100000 in
theorem c_X2_areTonesApart {l : Launch} {V : Ev} (hL : V.2.2.2 = lyC) {a0 : Nat} {a1 : Nat} (ka0 : kdC a0 = 0) (ka1 : kdC a1 = 4) {μ : Mem} {rZ : Int32} {μZ : Mem} (h : f_X2_areTonesApart a0 a1 μ = some (rZ, μZ)) : CT l V yX2_areTonesApart cX2_areTonesApart 3 (some .boolean) 1 [.ref (evA V a0), .ref (evA V a1)] μ μZ (some (.int rZ)) := by
  refine so_met [(0, .ref (evA V a0)), (1, .ref (evA V a1))] (by decide) (Nat.le_of_ble_eq_true rfl) (evCn hL) rfl ?_
  intro X hl hV hn hX hR
  subst hl hV
  unfold f_X2_areTonesApart at h
  refine so_aload_n (pc := 0) hX dX2_areTonesApart_0 0 rfl ?_
  refine so_gI (pc := 1) hX dX2_areTonesApart_1 fl_X2_67 (ekC hL ka0) ?_
  refine so_aload_n (pc := 4) hX dX2_areTonesApart_4 0 rfl ?_
  refine so_gI (pc := 5) hX dX2_areTonesApart_5 fl_X2_70 (ekC hL ka0) ?_
  refine so_isub (pc := 8) hX dX2_areTonesApart_8 ?_
  refine so_istore_n (pc := 9) hX dX2_areTonesApart_9 [(2, .int ((μ.1 a0 7) - (μ.1 a0 6))), (0, .ref (evA (xV X) a0)), (1, .ref (evA (xV X) a1))] (by rw [hn]; decide) rfl ?_
  refine so_iload_n (pc := 10) hX dX2_areTonesApart_10 0 rfl ?_
  refine so_aload_n (pc := 11) hX dX2_areTonesApart_11 2 rfl ?_
  refine so_gI (pc := 12) hX dX2_areTonesApart_12 fl_X2_73 (ekC hL ka1) ?_
  refine so_mabs (pc := 15) hX dX2_areTonesApart_15 ml_X2_76 (by omega) (Nat.le_of_ble_eq_true rfl) ?_
  refine so_imul (pc := 18) hX dX2_areTonesApart_18 ?_
  refine so_aload_n (pc := 19) hX dX2_areTonesApart_19 1 rfl ?_
  refine so_gI (pc := 20) hX dX2_areTonesApart_20 fl_X2_82 (ekC hL ka0) ?_
  refine so_icmp_le (pc := 23) hX 30 dX2_areTonesApart_23 (by decide) (fun hc1 => ?_) (fun hc1 => ?_)
  · have h := ip hc1 h
    refine so_iconst (v := (0 : Int32)) (pc := 30) hX dX2_areTonesApart_30 (by decide) ?_
    exact so_iretH (pc := 31) hX hR h (by decide) dX2_areTonesApart_31
  · have h := iq hc1 h
    refine so_iconst (v := (1 : Int32)) (pc := 26) hX dX2_areTonesApart_26 (by decide) ?_
    refine so_goto (pc := 27) hX 31 dX2_areTonesApart_27 (by decide) ?_
    exact so_iretH (pc := 31) hX hR h (by decide) dX2_areTonesApart_31
set_option maxHeartbeats 4000000 in
set_option maxRecDepth 100000 in
theorem g_X2_reason_L26 {X : Cx} (hX : Fx X cX2_reason RX2 4) (hL : (xV X).2.2.2 = lyC) (hn : xn X = 12) {rZ : Int32} {μZ : Mem} (hR : Rt X (some .int) μZ (some (.int rZ))) {b1 : Nat} {b2 : Nat} {v3 : Int32} {v4 : Int32} {v5 : Int32} {v6 : Int32} (kb1 : kdC b1 = 0) (kb2 : kdC b2 = 4) {K : Mem → Option (Int32 × Mem)} (hK : ∀  (μ : Mem), K μ = some (rZ, μZ) → Gd X 112 [(0, .ref (evA (xV X) 9)), (1, .ref (evA (xV X) b1)), (2, .ref (evA (xV X) b2)), (3, .int v3), (4, .int v4), (5, .int v5), (6, .int v6)] [] μ) : ∀ (n : Nat) (v7 : Int32) (μ : Mem), f_X2_reason_L26 b1 b2 v3 v4 v5 v6 K n v7 μ = some (rZ, μZ) → Gd X 26 [(0, .ref (evA (xV X) 9)), (1, .ref (evA (xV X) b1)), (2, .ref (evA (xV X) b2)), (3, .int v3), (4, .int v4), (5, .int v5), (6, .int v6), (7, .int v7)] [] μ := by
  intro n
  induction n with
  | zero => intro _ _ h; rw [f_X2_reason_L26] at h; cases h
  | succ n ih =>
    intro v7 μ h
    rw [f_X2_reason_L26] at h
    refine so_iload (pc := 26) hX dX2_reason_26 7 rfl ?_
    refine so_aload_n (pc := 28) hX dX2_reason_28 1 rfl ?_
    refine so_gR (pc := 29) hX (b1 + 1) dX2_reason_29 fl_X2_21 (ekC hL kb1) (erC hL (rq_0_0 kb1)) ?_
    refine so_gI (pc := 32) hX dX2_reason_32 fl_X2_33 (ekC hL (kq_0_0 kb1)) ?_
    refine so_icmp_ge (pc := 35) hX 112 dX2_reason_35 (by decide) (fun hc3 => ?_) (fun hc3 => ?_)
    · have h := ip hc3 h
      refine so_sub (pc := 112) (lv' := [(0, .ref (evA (xV X) 9)), (1, .ref (evA (xV X) b1)), (2, .ref (evA (xV X) b2)), (3, .int v3), (4, .int v4), (5, .int v5), (6, .int v6)]) [0, 1, 2, 3, 4, 5, 6] rfl ?_
      exact hK _ h
    · have h := iq hc3 h
      refine so_aload_n (pc := 38) hX dX2_reason_38 1 rfl ?_
      refine so_gR (pc := 39) hX (b1 + 1) dX2_reason_39 fl_X2_21 (ekC hL kb1) (erC hL (rq_0_0 kb1)) ?_
      refine so_iload (pc := 42) hX dX2_reason_42 7 rfl ?_
      refine so_iload (pc := 44) hX dX2_reason_44 6 rfl ?_
      obtain ⟨r5, μ4, hr, h⟩ := obd h
      refine so_callV (As := [.int v7, .int v6]) (rest := []) (pc := 46) hX dX2_reason_46 (c_X1_offsetAt hL (kq_0_0 kb1) hr) mw_X1_offsetAt mv_X1_offsetAt ml_X2_36 (ekC hL (kq_0_0 kb1)) (by decide) rfl rfl rfl rfl (by omega) (by decide) (Nat.le_of_ble_eq_true rfl) ?_
      refine so_istore (pc := 49) hX dX2_reason_49 [(8, .int r5), (0, .ref (evA (xV X) 9)), (1, .ref (evA (xV X) b1)), (2, .ref (evA (xV X) b2)), (3, .int v3), (4, .int v4), (5, .int v5), (6, .int v6), (7, .int v7)] (by rw [hn]; decide) rfl ?_
      refine so_iload (pc := 51) hX dX2_reason_51 5 rfl ?_
      refine so_i2l (pc := 53) hX dX2_reason_53 ?_
      refine so_aload_n (pc := 54) hX dX2_reason_54 1 rfl ?_
      refine so_gR (pc := 55) hX 10 dX2_reason_55 fl_X2_9 (ekC hL rfl) (erC hL rfl) ?_
      refine so_iload (pc := 58) hX dX2_reason_58 0 rfl ?_
      obtain ⟨e6, hr, h⟩ := ob h
      refine so_iald (pc := 60) hX dX2_reason_60 (ekC hL rfl) (elC hL rfl) hr ?_
      refine so_aload_n (pc := 61) hX dX2_reason_61 2 rfl ?_
      refine so_gI (pc := 62) hX dX2_reason_62 fl_X2_40 (ekC hL kb1) ?_
      refine so_imul (pc := 65) hX dX2_reason_65 ?_
      refine so_i2l (pc := 66) hX dX2_reason_66 ?_
      refine so_ladd (pc := 67) hX dX2_reason_67 ?_
      refine so_lstore (pc := 68) hX dX2_reason_68 [(9, .long ((Int32.toInt64 v4) + (Int32.toInt64 (e6 * (μ4.1 b1 4))))), (8, .int r5), (0, .ref (evA (xV X) 9)), (1, .ref (evA (xV X) b1)), (2, .ref (evA (xV X) b2)), (3, .int v3), (4, .int v4), (5, .int v5), (6, .int v6), (7, .int v7)] (by rw [hn]; decide) rfl ?_
      refine so_aload_n (pc := 70) hX dX2_reason_70 3 rfl ?_
      refine so_aload_n (pc := 71) hX dX2_reason_71 4 rfl ?_
      refine so_iload_n (pc := 72) hX dX2_reason_72 5 rfl ?_
      refine so_i2l (pc := 73) hX dX2_reason_73 ?_
      refine so_iload (pc := 74) hX dX2_reason_74 1 rfl ?_
      refine so_i2l (pc := 76) hX dX2_reason_76 ?_
      refine so_ladd (pc := 77) hX dX2_reason_77 ?_
      refine so_lload (pc := 78) hX dX2_reason_78 0 rfl ?_
      refine so_iload (pc := 80) hX dX2_reason_80 7 rfl ?_
      obtain ⟨r8, μ7, hr, h⟩ := obd h
      refine so_callS (As := [.ref (evA (xV X) b1), .ref (evA (xV X) b2), .long ((Int32.toInt64 v3) + (Int32.toInt64 r5)), .long ((Int32.toInt64 v4) + (Int32.toInt64 (e6 * (μ4.1 b1 4)))), .int v5]) (rest := []) (pc := 82) hX dX2_reason_82 (c_X2_reasonOfCut hL kb1 kb2 hr) mw_X2_reasonOfCut ms_X2_reasonOfCut ml_X2_41 rfl rfl (by omega) (by decide) (Nat.le_of_ble_eq_true rfl) ?_
      refine so_istore (pc := 85) hX dX2_reason_85 [(11, .int r8), (9, .long ((Int32.toInt64 v4) + (Int32.toInt64 (e6 * (μ4.1 b1 4))))), (8, .int r5), (0, .ref (evA (xV X) 9)), (1, .ref (evA (xV X) b1)), (2, .ref (evA (xV X) b2)), (3, .int v3), (4, .int v4), (5, .int v5), (6, .int v6), (7, .int v7)] (by rw [hn]; decide) rfl ?_
      refine so_iload (pc := 87) hX dX2_reason_87 0 rfl ?_
      refine so_if_eq (pc := 89) hX 95 dX2_reason_89 (by decide) (fun hc9 => ?_) (fun hc9 => ?_)
      · have h := ip hc9 h
        refine so_aload_n (pc := 95) hX dX2_reason_95 3 rfl ?_
        refine so_gR (pc := 96) hX 10 dX2_reason_96 fl_X2_9 (ekC hL rfl) (erC hL rfl) ?_
        refine so_iload (pc := 99) hX dX2_reason_99 2 rfl ?_
        refine so_dup2 (pc := 101) hX dX2_reason_101 rfl rfl ?_
        obtain ⟨e10, hr, h⟩ := ob h
        refine so_iald (pc := 102) hX dX2_reason_102 (ekC hL rfl) (elC hL rfl) hr ?_
        refine so_iconst (v := (1 : Int32)) (pc := 103) hX dX2_reason_103 (by decide) ?_
        refine so_iadd (pc := 104) hX dX2_reason_104 ?_
        obtain ⟨μ11, hr, h⟩ := ob h
        refine so_iast (pc := 105) hX dX2_reason_105 (ekC hL rfl) (elC hL rfl) hr ?_
        refine so_iinc (pc := 106) hX dX2_reason_106 10 (1 : Int32) [(7, .int (v7 + (1 : Int32))), (11, .int r8), (9, .long ((Int32.toInt64 v4) + (Int32.toInt64 (e6 * (μ4.1 b1 4))))), (8, .int r5), (0, .ref (evA (xV X) 9)), (1, .ref (evA (xV X) b1)), (2, .ref (evA (xV X) b2)), (3, .int v3), (4, .int v4), (5, .int v5), (6, .int v6)] rfl (by decide) (by rw [hn]; decide) rfl ?_
        refine so_goto (pc := 109) hX 26 dX2_reason_109 (by decide) ?_
        refine so_sub (pc := 26) (lv' := [(0, .ref (evA (xV X) 9)), (1, .ref (evA (xV X) b1)), (2, .ref (evA (xV X) b2)), (3, .int v3), (4, .int v4), (5, .int v5), (6, .int v6), (7, .int (v7 + (1 : Int32)))]) [4, 5, 6, 7, 8, 9, 10, 0] rfl ?_
        exact ih _ _ h
      · have h := iq hc9 h
        refine so_iload (pc := 92) hX dX2_reason_92 0 rfl ?_
        exact so_iretH (pc := 94) hX hR h rfl dX2_reason_94
set_option maxHeartbeats 4000000 in
set_option maxRecDepth 100000 in
theorem g_X2_reason_L11 {X : Cx} (hX : Fx X cX2_reason RX2 4) (hL : (xV X).2.2.2 = lyC) (hn : xn X = 12) {rZ : Int32} {μZ : Mem} (hR : Rt X (some .int) μZ (some (.int rZ))) {b1 : Nat} {b2 : Nat} {v3 : Int32} {v4 : Int32} {v5 : Int32} (kb1 : kdC b1 = 0) (kb2 : kdC b2 = 4) {K : Mem → Option (Int32 × Mem)} (hK : ∀  (μ : Mem), K μ = some (rZ, μZ) → Gd X 118 [(1, .ref (evA (xV X) b1)), (2, .ref (evA (xV X) b2))] [] μ) : ∀ (n : Nat) (v6 : Int32) (μ : Mem), f_X2_reason_L11 b1 b2 v3 v4 v5 K n v6 μ = some (rZ, μZ) → Gd X 11 [(0, .ref (evA (xV X) 9)), (1, .ref (evA (xV X) b1)), (2, .ref (evA (xV X) b2)), (3, .int v3), (4, .int v4), (5, .int v5), (6, .int v6)] [] μ := by
  intro n
  induction n with
  | zero => intro _ _ h; rw [f_X2_reason_L11] at h; cases h
  | succ n ih =>
    intro v6 μ h
    rw [f_X2_reason_L11] at h
    refine so_iload (pc := 11) hX dX2_reason_11 6 rfl ?_
    refine so_aload_n (pc := 13) hX dX2_reason_13 1 rfl ?_
    refine so_gR (pc := 14) hX (b1 + 1) dX2_reason_14 fl_X2_21 (ekC hL kb1) (erC hL (rq_0_0 kb1)) ?_
    refine so_gI (pc := 17) hX dX2_reason_17 fl_X2_27 (ekC hL (kq_0_0 kb1)) ?_
    refine so_icmp_ge (pc := 20) hX 118 dX2_reason_20 (by decide) (fun hc2 => ?_) (fun hc2 => ?_)
    · have h := ip hc2 h
      refine so_sub (pc := 118) (lv' := [(1, .ref (evA (xV X) b1)), (2, .ref (evA (xV X) b2))]) [1, 2] rfl ?_
      exact hK _ h
    · have h := iq hc2 h
      refine so_iconst (v := (0 : Int32)) (pc := 23) hX dX2_reason_23 (by decide) ?_
      refine so_istore (pc := 24) hX dX2_reason_24 [(7, .int (0 : Int32)), (0, .ref (evA (xV X) 9)), (1, .ref (evA (xV X) b1)), (2, .ref (evA (xV X) b2)), (3, .int v3), (4, .int v4), (5, .int v5), (6, .int v6)] (by rw [hn]; decide) rfl ?_
      refine so_sub (pc := 26) (lv' := [(0, .ref (evA (xV X) 9)), (1, .ref (evA (xV X) b1)), (2, .ref (evA (xV X) b2)), (3, .int v3), (4, .int v4), (5, .int v5), (6, .int v6), (7, .int (0 : Int32))]) [1, 2, 3, 4, 5, 6, 7, 0] rfl ?_
      refine g_X2_reason_L26 hX hL hn hR kb1 kb2 (fun μ12 h => ?_) FU _ _ h
      refine so_iinc (pc := 112) hX dX2_reason_112 6 (1 : Int32) [(6, .int (v6 + (1 : Int32))), (0, .ref (evA (xV X) 9)), (1, .ref (evA (xV X) b1)), (2, .ref (evA (xV X) b2)), (3, .int v3), (4, .int v4), (5, .int v5)] rfl (by decide) (by rw [hn]; decide) rfl ?_
      refine so_goto (pc := 115) hX 11 dX2_reason_115 (by decide) ?_
      refine so_sub (pc := 11) (lv' := [(0, .ref (evA (xV X) 9)), (1, .ref (evA (xV X) b1)), (2, .ref (evA (xV X) b2)), (3, .int v3), (4, .int v4), (5, .int v5), (6, .int (v6 + (1 : Int32)))]) [1, 2, 3, 4, 5, 6, 0] rfl ?_
      exact ih _ _ h
set_option maxHeartbeats 4000000 in
set_option maxRecDepth 100000 in
theorem c_X2_reason {l : Launch} {V : Ev} (hL : V.2.2.2 = lyC) {a1 : Nat} {a2 : Nat} {v3 : Int32} {v4 : Int32} {v5 : Int32} (ka1 : kdC a1 = 0) (ka2 : kdC a2 = 4) {μ : Mem} {rZ : Int32} {μZ : Mem} (h : f_X2_reason a1 a2 v3 v4 v5 μ = some (rZ, μZ)) : CT l V yX2_reason cX2_reason 12 (some .int) 4 [.ref (evA V 9), .ref (evA V a1), .ref (evA V a2), .int v3, .int v4, .int v5] μ μZ (some (.int rZ)) := by
  refine so_met [(0, .ref (evA V 9)), (1, .ref (evA V a1)), (2, .ref (evA V a2)), (3, .int v3), (4, .int v4), (5, .int v5)] (by decide) (Nat.le_of_ble_eq_true rfl) (evCn hL) rfl ?_
  intro X hl hV hn hX hR
  subst hl hV
  unfold f_X2_reason at h
  refine so_aload_n (pc := 0) hX dX2_reason_0 0 rfl ?_
  refine so_gR (pc := 1) hX 10 dX2_reason_1 fl_X2_9 (ekC hL rfl) (erC hL rfl) ?_
  refine so_iconst (v := (0 : Int32)) (pc := 4) hX dX2_reason_4 (by decide) ?_
  obtain ⟨μ1, hr, h⟩ := ob h
  refine so_callS (As := [.ref (evA (xV X) 10), .int (0 : Int32)]) (rest := []) (pc := 5) hX dX2_reason_5 (c_J7_fill_53178 hL rfl rfl hr) mw_J7_fill_53178 ms_J7_fill_53178 ml_X2_15 rfl rfl (by omega) (by decide) (Nat.le_of_ble_eq_true rfl) ?_
  refine so_iconst (v := (0 : Int32)) (pc := 8) hX dX2_reason_8 (by decide) ?_
  refine so_istore (pc := 9) hX dX2_reason_9 [(6, .int (0 : Int32)), (0, .ref (evA (xV X) 9)), (1, .ref (evA (xV X) a1)), (2, .ref (evA (xV X) a2)), (3, .int v3), (4, .int v4), (5, .int v5)] (by rw [hn]; decide) rfl ?_
  refine so_sub (pc := 11) (lv' := [(0, .ref (evA (xV X) 9)), (1, .ref (evA (xV X) a1)), (2, .ref (evA (xV X) a2)), (3, .int v3), (4, .int v4), (5, .int v5), (6, .int (0 : Int32))]) [1, 2, 3, 4, 5, 6, 0] rfl ?_
  refine g_X2_reason_L11 hX hL hn hR ka1 ka2 (fun μ13 h => ?_) FU _ _ h
  refine so_aload_n (pc := 118) hX dX2_reason_118 0 rfl ?_
  refine so_aload_n (pc := 119) hX dX2_reason_119 1 rfl ?_
  obtain ⟨r15, μ14, hr, h⟩ := obd h
  refine so_callS (As := [.ref (evA (xV X) a1), .ref (evA (xV X) a2)]) (rest := []) (pc := 120) hX dX2_reason_120 (c_X2_areTonesApart hL ka1 ka2 hr) mw_X2_areTonesApart ms_X2_areTonesApart ml_X2_45 rfl rfl (by omega) (by decide) (Nat.le_of_ble_eq_true rfl) ?_
  refine so_if_eq (pc := 123) hX 130 dX2_reason_123 (by decide) (fun hc16 => ?_) (fun hc16 => ?_)
  · have h := ip hc16 h
    refine so_iconst (v := (0 : Int32)) (pc := 130) hX dX2_reason_130 (by decide) ?_
    exact so_iretH (pc := 131) hX hR h rfl dX2_reason_131
  · have h := iq hc16 h
    refine so_iconst (v := (5 : Int32)) (pc := 126) hX dX2_reason_126 (by decide) ?_
    refine so_goto (pc := 127) hX 131 dX2_reason_127 (by decide) ?_
    exact so_iretH (pc := 131) hX hR h rfl dX2_reason_131
set_option maxHeartbeats 4000000 in
set_option maxRecDepth 100000 in
theorem g_X4_takenColumns_L15 {X : Cx} (hX : Fx X cX4_takenColumns RX4 0) (hL : (xV X).2.2.2 = lyC) (hn : xn X = 8) {rZ : Int64} {μZ : Mem} (hR : Rt X (some .long) μZ (some (.long rZ))) {b0 : Nat} {v3 : Int32} {v6 : Int32} (kb0 : kdC b0 = 4) {K : Int64 → Mem → Option (Int64 × Mem)} (hK : ∀ (v4 : Int64) (μ : Mem), K v4 μ = some (rZ, μZ) → Gd X 60 [(4, .long v4)] [] μ) : ∀ (n : Nat) (v4 : Int64) (v7 : Int32) (μ : Mem), f_X4_takenColumns_L15 b0 v3 v6 K n v4 v7 μ = some (rZ, μZ) → Gd X 15 [(0, .ref (evA (xV X) b0)), (3, .int v3), (4, .long v4), (6, .int v6), (7, .int v7)] [] μ := by
  intro n
  induction n with
  | zero => intro _ _ _ h; rw [f_X4_takenColumns_L15] at h; cases h
  | succ n ih =>
    intro v4 v7 μ h
    rw [f_X4_takenColumns_L15] at h
    refine so_iload (pc := 15) hX dX4_takenColumns_15 4 rfl ?_
    refine so_iload (pc := 17) hX dX4_takenColumns_17 3 rfl ?_
    refine so_iload_n (pc := 19) hX dX4_takenColumns_19 1 rfl ?_
    refine so_iadd (pc := 20) hX dX4_takenColumns_20 ?_
    refine so_icmp_ge (pc := 21) hX 60 dX4_takenColumns_21 (by decide) (fun hc1 => ?_) (fun hc1 => ?_)
    · have h := ip hc1 h
      refine so_sub (pc := 60) (lv' := [(4, .long v4)]) [2] rfl ?_
      exact hK _ _ h
    · have h := iq hc1 h
      refine so_iload (pc := 24) hX dX4_takenColumns_24 4 rfl ?_
      refine so_aload_n (pc := 26) hX dX4_takenColumns_26 0 rfl ?_
      refine so_gR (pc := 27) hX (b0 + 4) dX4_takenColumns_27 fl_X4_25 (ekC hL kb0) (erC hL (rq_4_11 kb0)) ?_
      refine so_alenJ (pc := 30) hX dX4_takenColumns_30 (ekC hL (kq_4_11 kb0)) (elC hL (nq_4_11 kb0)) ?_
      refine so_icmp_ge (pc := 31) hX 60 dX4_takenColumns_31 (by decide) (fun hc2 => ?_) (fun hc2 => ?_)
      · have h := ip hc2 h
        refine so_sub (pc := 60) (lv' := [(4, .long v4)]) [2] rfl ?_
        exact hK _ _ h
      · have h := iq hc2 h
        refine so_lload (pc := 34) hX dX4_takenColumns_34 2 rfl ?_
        refine so_aload_n (pc := 36) hX dX4_takenColumns_36 0 rfl ?_
        refine so_gR (pc := 37) hX (b0 + 3) dX4_takenColumns_37 fl_X4_21 (ekC hL kb0) (erC hL (rq_4_10 kb0)) ?_
        refine so_iload (pc := 40) hX dX4_takenColumns_40 4 rfl ?_
        obtain ⟨e3, hr, h⟩ := ob h
        refine so_lald (pc := 42) hX dX4_takenColumns_42 (ekC hL (kq_4_10 kb0)) (elC hL (nq_4_10 kb0)) hr ?_
        refine so_aload_n (pc := 43) hX dX4_takenColumns_43 0 rfl ?_
        refine so_gR (pc := 44) hX (b0 + 4) dX4_takenColumns_44 fl_X4_25 (ekC hL kb0) (erC hL (rq_4_11 kb0)) ?_
        refine so_iload (pc := 47) hX dX4_takenColumns_47 4 rfl ?_
        obtain ⟨e4, hr, h⟩ := ob h
        refine so_lald (pc := 49) hX dX4_takenColumns_49 (ekC hL (kq_4_11 kb0)) (elC hL (nq_4_11 kb0)) hr ?_
        refine so_lor (pc := 50) hX dX4_takenColumns_50 ?_
        refine so_lor (pc := 51) hX dX4_takenColumns_51 ?_
        refine so_lstore (pc := 52) hX dX4_takenColumns_52 [(4, .long (v4 ||| (e3 ||| e4))), (0, .ref (evA (xV X) b0)), (3, .int v3), (6, .int v6), (7, .int v7)] (by rw [hn]; decide) rfl ?_
        refine so_iinc (pc := 54) hX dX4_takenColumns_54 4 (1 : Int32) [(7, .int (v7 + (1 : Int32))), (4, .long (v4 ||| (e3 ||| e4))), (0, .ref (evA (xV X) b0)), (3, .int v3), (6, .int v6)] rfl (by decide) (by rw [hn]; decide) rfl ?_
        refine so_goto (pc := 57) hX 15 dX4_takenColumns_57 (by decide) ?_
        refine so_sub (pc := 15) (lv' := [(0, .ref (evA (xV X) b0)), (3, .int v3), (4, .long (v4 ||| (e3 ||| e4))), (6, .int v6), (7, .int (v7 + (1 : Int32)))]) [2, 3, 1, 4, 0] rfl ?_
        exact ih _ _ _ h
set_option maxHeartbeats 4000000 in
set_option maxRecDepth 100000 in
theorem c_X4_takenColumns {l : Launch} {V : Ev} (hL : V.2.2.2 = lyC) {a0 : Nat} {v1 : Int32} {v2 : Int32} {v3 : Int32} (ka0 : kdC a0 = 4) {μ : Mem} {rZ : Int64} {μZ : Mem} (h : f_X4_takenColumns a0 v1 v2 v3 μ = some (rZ, μZ)) : CT l V yX4_takenColumns cX4_takenColumns 8 (some .long) 0 [.ref (evA V a0), .int v1, .int v2, .int v3] μ μZ (some (.long rZ)) := by
  refine so_met [(0, .ref (evA V a0)), (1, .int v1), (2, .int v2), (3, .int v3)] (by decide) (Nat.le_of_ble_eq_true rfl) (evCn hL) rfl ?_
  intro X hl hV hn hX hR
  subst hl hV
  unfold f_X4_takenColumns at h
  refine so_lconst (v := (0 : Int64)) (pc := 0) hX dX4_takenColumns_0 (by decide) ?_
  refine so_lstore (pc := 1) hX dX4_takenColumns_1 [(4, .long (0 : Int64)), (0, .ref (evA (xV X) a0)), (1, .int v1), (2, .int v2), (3, .int v3)] (by rw [hn]; decide) rfl ?_
  refine so_iload_n (pc := 3) hX dX4_takenColumns_3 2 rfl ?_
  refine so_bipush (v := (60 : Int32)) (pc := 4) hX dX4_takenColumns_4 (by decide) ?_
  refine so_imul (pc := 6) hX dX4_takenColumns_6 ?_
  refine so_iload_n (pc := 7) hX dX4_takenColumns_7 3 rfl ?_
  refine so_iadd (pc := 8) hX dX4_takenColumns_8 ?_
  refine so_istore (pc := 9) hX dX4_takenColumns_9 [(6, .int ((v1 * (60 : Int32)) + v2)), (4, .long (0 : Int64)), (0, .ref (evA (xV X) a0)), (1, .int v1), (2, .int v2), (3, .int v3)] (by rw [hn]; decide) rfl ?_
  refine so_iload (pc := 11) hX dX4_takenColumns_11 0 rfl ?_
  refine so_istore (pc := 13) hX dX4_takenColumns_13 [(7, .int ((v1 * (60 : Int32)) + v2)), (6, .int ((v1 * (60 : Int32)) + v2)), (4, .long (0 : Int64)), (0, .ref (evA (xV X) a0)), (1, .int v1), (2, .int v2), (3, .int v3)] (by rw [hn]; decide) rfl ?_
  refine so_sub (pc := 15) (lv' := [(0, .ref (evA (xV X) a0)), (3, .int v3), (4, .long (0 : Int64)), (6, .int ((v1 * (60 : Int32)) + v2)), (7, .int ((v1 * (60 : Int32)) + v2))]) [3, 6, 2, 1, 0] rfl ?_
  refine g_X4_takenColumns_L15 hX hL hn hR ka0 (fun w5 μ6 h => ?_) FU _ _ _ h
  refine so_lload (pc := 60) hX dX4_takenColumns_60 0 rfl ?_
  exact so_lretH (pc := 62) hX hR h dX4_takenColumns_62
set_option maxHeartbeats 4000000 in
set_option maxRecDepth 100000 in
theorem g_X2_takenColumns_L9 {X : Cx} (hX : Fx X cX2_takenColumns RX2 1) (hL : (xV X).2.2.2 = lyC) (hn : xn X = 7) {rZ : Int64} {μZ : Mem} (hR : Rt X (some .long) μZ (some (.long rZ))) {b0 : Nat} {b1 : Nat} {v2 : Int32} {v3 : Int32} (kb0 : kdC b0 = 0) (kb1 : kdC b1 = 4) {K : Int64 → Mem → Option (Int64 × Mem)} (hK : ∀ (v4 : Int64) (μ : Mem), K v4 μ = some (rZ, μZ) → Gd X 44 [(4, .long v4)] [] μ) : ∀ (n : Nat) (v4 : Int64) (v6 : Int32) (μ : Mem), f_X2_takenColumns_L9 b0 b1 v2 v3 K n v4 v6 μ = some (rZ, μZ) → Gd X 9 [(0, .ref (evA (xV X) b0)), (1, .ref (evA (xV X) b1)), (2, .int v2), (3, .int v3), (4, .long v4), (6, .int v6)] [] μ := by
  intro n
  induction n with
  | zero => intro _ _ _ h; rw [f_X2_takenColumns_L9] at h; cases h
  | succ n ih =>
    intro v4 v6 μ h
    rw [f_X2_takenColumns_L9] at h
    refine so_iload (pc := 9) hX dX2_takenColumns_9 5 rfl ?_
    refine so_aload_n (pc := 11) hX dX2_takenColumns_11 0 rfl ?_
    refine so_gI (pc := 12) hX dX2_takenColumns_12 fl_X2_67 (ekC hL kb0) ?_
    refine so_icmp_gt (pc := 15) hX 44 dX2_takenColumns_15 (by decide) (fun hc1 => ?_) (fun hc1 => ?_)
    · have h := ip hc1 h
      refine so_sub (pc := 44) (lv' := [(4, .long v4)]) [4] rfl ?_
      exact hK _ _ h
    · have h := iq hc1 h
      refine so_lload (pc := 18) hX dX2_takenColumns_18 4 rfl ?_
      refine so_aload_n (pc := 20) hX dX2_takenColumns_20 1 rfl ?_
      refine so_iload_n (pc := 21) hX dX2_takenColumns_21 2 rfl ?_
      refine so_iload (pc := 22) hX dX2_takenColumns_22 5 rfl ?_
      refine so_iadd (pc := 24) hX dX2_takenColumns_24 ?_
      refine so_iload_n (pc := 25) hX dX2_takenColumns_25 3 rfl ?_
      refine so_aload_n (pc := 26) hX dX2_takenColumns_26 0 rfl ?_
      refine so_iload (pc := 27) hX dX2_takenColumns_27 5 rfl ?_
      obtain ⟨r3, μ2, hr, h⟩ := obd h
      refine so_callV (As := [.int v6]) (rest := [.int v3, .int (v2 + v6), .ref (evA (xV X) b1), .long v4]) (pc := 29) hX dX2_takenColumns_29 (c_X0_stackHigh hL kb0 hr) mw_X0_stackHigh mv_X0_stackHigh ml_X2_104 (ekC hL kb0) (by decide) rfl rfl rfl rfl (by omega) (by decide) (Nat.le_of_ble_eq_true rfl) ?_
      obtain ⟨r5, μ4, hr, h⟩ := obd h
      refine so_callV (As := [.int (v2 + v6), .int v3, .int r3]) (rest := [.long v4]) (pc := 32) hX dX2_takenColumns_32 (c_X4_takenColumns hL kb1 hr) mw_X4_takenColumns mv_X4_takenColumns ml_X2_124 (ekC hL kb1) (by decide) rfl rfl rfl rfl (by omega) (by decide) (Nat.le_of_ble_eq_true rfl) ?_
      refine so_lor (pc := 35) hX dX2_takenColumns_35 ?_
      refine so_lstore (pc := 36) hX dX2_takenColumns_36 [(4, .long (v4 ||| r5)), (0, .ref (evA (xV X) b0)), (1, .ref (evA (xV X) b1)), (2, .int v2), (3, .int v3), (6, .int v6)] (by rw [hn]; decide) rfl ?_
      refine so_iinc (pc := 38) hX dX2_takenColumns_38 5 (1 : Int32) [(6, .int (v6 + (1 : Int32))), (4, .long (v4 ||| r5)), (0, .ref (evA (xV X) b0)), (1, .ref (evA (xV X) b1)), (2, .int v2), (3, .int v3)] rfl (by decide) (by rw [hn]; decide) rfl ?_
      refine so_goto (pc := 41) hX 9 dX2_takenColumns_41 (by decide) ?_
      refine so_sub (pc := 9) (lv' := [(0, .ref (evA (xV X) b0)), (1, .ref (evA (xV X) b1)), (2, .int v2), (3, .int v3), (4, .long (v4 ||| r5)), (6, .int (v6 + (1 : Int32)))]) [2, 3, 4, 5, 1, 0] rfl ?_
      exact ih _ _ _ h
set_option maxHeartbeats 4000000 in
set_option maxRecDepth 100000 in
theorem c_X2_takenColumns {l : Launch} {V : Ev} (hL : V.2.2.2 = lyC) {a0 : Nat} {a1 : Nat} {v2 : Int32} {v3 : Int32} (ka0 : kdC a0 = 0) (ka1 : kdC a1 = 4) {μ : Mem} {rZ : Int64} {μZ : Mem} (h : f_X2_takenColumns a0 a1 v2 v3 μ = some (rZ, μZ)) : CT l V yX2_takenColumns cX2_takenColumns 7 (some .long) 1 [.ref (evA V a0), .ref (evA V a1), .int v2, .int v3] μ μZ (some (.long rZ)) := by
  refine so_met [(0, .ref (evA V a0)), (1, .ref (evA V a1)), (2, .int v2), (3, .int v3)] (by decide) (Nat.le_of_ble_eq_true rfl) (evCn hL) rfl ?_
  intro X hl hV hn hX hR
  subst hl hV
  unfold f_X2_takenColumns at h
  refine so_lconst (v := (0 : Int64)) (pc := 0) hX dX2_takenColumns_0 (by decide) ?_
  refine so_lstore (pc := 1) hX dX2_takenColumns_1 [(4, .long (0 : Int64)), (0, .ref (evA (xV X) a0)), (1, .ref (evA (xV X) a1)), (2, .int v2), (3, .int v3)] (by rw [hn]; decide) rfl ?_
  refine so_aload_n (pc := 3) hX dX2_takenColumns_3 1 rfl ?_
  refine so_gI (pc := 4) hX dX2_takenColumns_4 fl_X2_70 (ekC hL ka0) ?_
  refine so_istore (pc := 7) hX dX2_takenColumns_7 [(6, .int (μ.1 a0 6)), (4, .long (0 : Int64)), (0, .ref (evA (xV X) a0)), (1, .ref (evA (xV X) a1)), (2, .int v2), (3, .int v3)] (by rw [hn]; decide) rfl ?_
  refine so_sub (pc := 9) (lv' := [(0, .ref (evA (xV X) a0)), (1, .ref (evA (xV X) a1)), (2, .int v2), (3, .int v3), (4, .long (0 : Int64)), (6, .int (μ.1 a0 6))]) [2, 3, 4, 5, 1, 0] rfl ?_
  refine g_X2_takenColumns_L9 hX hL hn hR ka0 ka1 (fun w6 μ7 h => ?_) FU _ _ _ h
  refine so_lload (pc := 44) hX dX2_takenColumns_44 0 rfl ?_
  exact so_lretH (pc := 46) hX hR h dX2_takenColumns_46
set_option maxHeartbeats 4000000 in
set_option maxRecDepth 100000 in
theorem g_X2_firstFree_L3 {X : Cx} (hX : Fx X cX2_firstFree RX2 1) (hL : (xV X).2.2.2 = lyC) (hn : xn X = 5) {rZ : Int32} {μZ : Mem} (hR : Rt X (some .int) μZ (some (.int rZ))) {v0 : Int64} {v2 : Int32} {v3 : Int32}  {K : Mem → Option (Int32 × Mem)} (hK : ∀  (μ : Mem), K μ = some (rZ, μZ) → Gd X 31 [] [] μ) : ∀ (n : Nat) (v4 : Int32) (μ : Mem), f_X2_firstFree_L3 v0 v2 v3 K n v4 μ = some (rZ, μZ) → Gd X 3 [(0, .long v0), (2, .int v2), (3, .int v3), (4, .int v4)] [] μ := by
  intro n
  induction n with
  | zero => intro _ _ h; rw [f_X2_firstFree_L3] at h; cases h
  | succ n ih =>
    intro v4 μ h
    rw [f_X2_firstFree_L3] at h
    refine so_iload (pc := 3) hX dX2_firstFree_3 3 rfl ?_
    refine so_iload_n (pc := 5) hX dX2_firstFree_5 2 rfl ?_
    refine so_icmp_gt (pc := 6) hX 31 dX2_firstFree_6 (by decide) (fun hc1 => ?_) (fun hc1 => ?_)
    · have h := ip hc1 h
      refine so_sub (pc := 31) (lv' := []) [] rfl ?_
      exact hK _ h
    · have h := iq hc1 h
      refine so_lload_n (pc := 9) hX dX2_firstFree_9 0 rfl ?_
      refine so_iload (pc := 10) hX dX2_firstFree_10 3 rfl ?_
      refine so_iload_n (pc := 12) hX dX2_firstFree_12 1 rfl ?_
      obtain ⟨r3, μ2, hr, h⟩ := obd h
      refine so_callS (As := [.int v4, .int v2]) (rest := [.long v0]) (pc := 13) hX dX2_firstFree_13 (c_X4_mask hL hr) mw_X4_mask ms_X4_mask ml_X2_127 rfl rfl (by omega) (by decide) (Nat.le_of_ble_eq_true rfl) ?_
      refine so_land (pc := 16) hX dX2_firstFree_16 ?_
      refine so_lconst (v := (0 : Int64)) (pc := 17) hX dX2_firstFree_17 (by decide) ?_
      refine so_lcmp (pc := 18) hX dX2_firstFree_18 ?_
      refine so_if_ne (pc := 19) hX 25 dX2_firstFree_19 (by decide) (fun hc4 => ?_) (fun hc4 => ?_)
      · have h := iq hc4 h
        refine so_iinc (pc := 25) hX dX2_firstFree_25 3 (1 : Int32) [(4, .int (v4 + (1 : Int32))), (0, .long v0), (2, .int v2), (3, .int v3)] rfl (by decide) (by rw [hn]; decide) rfl ?_
        refine so_goto (pc := 28) hX 3 dX2_firstFree_28 (by decide) ?_
        refine so_sub (pc := 3) (lv' := [(0, .long v0), (2, .int v2), (3, .int v3), (4, .int (v4 + (1 : Int32)))]) [1, 2, 3, 0] rfl ?_
        exact ih _ _ h
      · have h := ip hc4 h
        refine so_iload (pc := 22) hX dX2_firstFree_22 3 rfl ?_
        exact so_iretH (pc := 24) hX hR h rfl dX2_firstFree_24
set_option maxHeartbeats 4000000 in
set_option maxRecDepth 100000 in
theorem c_X2_firstFree {l : Launch} {V : Ev} (hL : V.2.2.2 = lyC) {v0 : Int64} {v2 : Int32} {v3 : Int32}  {μ : Mem} {rZ : Int32} {μZ : Mem} (h : f_X2_firstFree v0 v2 v3 μ = some (rZ, μZ)) : CT l V yX2_firstFree cX2_firstFree 5 (some .int) 1 [.long v0, .int v2, .int v3] μ μZ (some (.int rZ)) := by
  refine so_met [(0, .long v0), (2, .int v2), (3, .int v3)] (by decide) (Nat.le_of_ble_eq_true rfl) (evCn hL) rfl ?_
  intro X hl hV hn hX hR
  subst hl hV
  unfold f_X2_firstFree at h
  refine so_iconst (v := (0 : Int32)) (pc := 0) hX dX2_firstFree_0 (by decide) ?_
  refine so_istore (pc := 1) hX dX2_firstFree_1 [(4, .int (0 : Int32)), (0, .long v0), (2, .int v2), (3, .int v3)] (by rw [hn]; decide) rfl ?_
  refine so_sub (pc := 3) (lv' := [(0, .long v0), (2, .int v2), (3, .int v3), (4, .int (0 : Int32))]) [1, 2, 3, 0] rfl ?_
  refine g_X2_firstFree_L3 hX hL hn hR (fun μ5 h => ?_) FU _ _ h
  refine so_iconst (v := (-1 : Int32)) (pc := 31) hX dX2_firstFree_31 (by decide) ?_
  exact so_iretH (pc := 32) hX hR h rfl dX2_firstFree_32
set_option maxHeartbeats 4000000 in
set_option maxRecDepth 100000 in
theorem g_X2_findFrom_L34 {X : Cx} (hX : Fx X cX2_findFrom RX2 2) (hL : (xV X).2.2.2 = lyC) (hn : xn X = 8) {rZ : Int32} {μZ : Mem} (hR : Rt X (some .boolean) μZ (some (.int rZ))) {b1 : Nat} {b2 : Nat} {v3 : Int32} (kb1 : kdC b1 = 0) (kb2 : kdC b2 = 4) {K : Int32 → Int32 → Mem → Option (Int32 × Mem)} (hK : ∀ (v4 : Int32) (v5 : Int32) (μ : Mem), K v4 v5 μ = some (rZ, μZ) → Gd X 97 [(0, .ref (evA (xV X) 9)), (1, .ref (evA (xV X) b1)), (2, .ref (evA (xV X) b2)), (3, .int v3), (4, .int v4), (5, .int v5)] [] μ) : ∀ (n : Nat) (v4 : Int32) (v5 : Int32) (v6 : Int32) (μ : Mem), f_X2_findFrom_L34 b1 b2 v3 K n v4 v5 v6 μ = some (rZ, μZ) → Gd X 34 [(0, .ref (evA (xV X) 9)), (1, .ref (evA (xV X) b1)), (2, .ref (evA (xV X) b2)), (3, .int v3), (4, .int v4), (5, .int v5), (6, .int v6)] [] μ := by
  intro n
  induction n with
  | zero => intro _ _ _ _ h; rw [f_X2_findFrom_L34] at h; cases h
  | succ n ih =>
    intro v4 v5 v6 μ h
    rw [f_X2_findFrom_L34] at h
    refine so_iload (pc := 34) hX dX2_findFrom_34 6 rfl ?_
    refine so_aload_n (pc := 36) hX dX2_findFrom_36 1 rfl ?_
    refine so_gI (pc := 37) hX dX2_findFrom_37 fl_X2_67 (ekC hL kb1) ?_
    refine so_icmp_gt (pc := 40) hX 97 dX2_findFrom_40 (by decide) (fun hc3 => ?_) (fun hc3 => ?_)
    · have h := ip hc3 h
      refine so_sub (pc := 97) (lv' := [(0, .ref (evA (xV X) 9)), (1, .ref (evA (xV X) b1)), (2, .ref (evA (xV X) b2)), (3, .int v3), (4, .int v4), (5, .int v5)]) [0, 1, 2, 3, 4, 5] rfl ?_
      exact hK _ _ _ h
    · have h := iq hc3 h
      refine so_aload_n (pc := 43) hX dX2_findFrom_43 1 rfl ?_
      refine so_gR (pc := 44) hX (b1 + 3) dX2_findFrom_44 fl_X2_98 (ekC hL kb1) (erC hL (rq_0_1 kb1)) ?_
      refine so_iload (pc := 47) hX dX2_findFrom_47 6 rfl ?_
      obtain ⟨e4, hr, h⟩ := ob h
      refine so_iald (pc := 49) hX dX2_findFrom_49 (ekC hL (kq_0_1 kb1)) (elC hL (nq_0_1 kb1)) hr ?_
      refine so_if_le (pc := 50) hX 91 dX2_findFrom_50 (by decide) (fun hc5 => ?_) (fun hc5 => ?_)
      · have h := ip hc5 h
        refine so_iinc (pc := 91) hX dX2_findFrom_91 6 (1 : Int32) [(6, .int (v6 + (1 : Int32))), (0, .ref (evA (xV X) 9)), (1, .ref (evA (xV X) b1)), (2, .ref (evA (xV X) b2)), (3, .int v3), (4, .int v4), (5, .int v5)] rfl (by decide) (by rw [hn]; decide) rfl ?_
        refine so_goto (pc := 94) hX 34 dX2_findFrom_94 (by decide) ?_
        refine so_sub (pc := 34) (lv' := [(0, .ref (evA (xV X) 9)), (1, .ref (evA (xV X) b1)), (2, .ref (evA (xV X) b2)), (3, .int v3), (4, .int v4), (5, .int v5), (6, .int (v6 + (1 : Int32)))]) [1, 2, 3, 4, 5, 6, 0] rfl ?_
        exact ih _ _ _ _ h
      · have h := iq hc5 h
        refine so_iload (pc := 53) hX dX2_findFrom_53 4 rfl ?_
        refine so_aload_n (pc := 55) hX dX2_findFrom_55 2 rfl ?_
        refine so_iload_n (pc := 56) hX dX2_findFrom_56 3 rfl ?_
        refine so_iload (pc := 57) hX dX2_findFrom_57 6 rfl ?_
        refine so_iadd (pc := 59) hX dX2_findFrom_59 ?_
        obtain ⟨r7, μ6, hr, h⟩ := obd h
        refine so_callV (As := [.int (v3 + v6)]) (rest := [.int v4]) (pc := 60) hX dX2_findFrom_60 (c_X4_widthOf hL kb2 hr) mw_X4_widthOf mv_X4_widthOf ml_X2_92 (ekC hL kb2) (by decide) rfl rfl rfl rfl (by omega) (by decide) (Nat.le_of_ble_eq_true rfl) ?_
        refine so_aload_n (pc := 63) hX dX2_findFrom_63 1 rfl ?_
        refine so_gI (pc := 64) hX dX2_findFrom_64 fl_X2_55 (ekC hL kb1) ?_
        refine so_isub (pc := 67) hX dX2_findFrom_67 ?_
        refine so_mmin (pc := 68) hX dX2_findFrom_68 ml_X2_101 (by omega) (Nat.le_of_ble_eq_true rfl) ?_
        refine so_istore (pc := 71) hX dX2_findFrom_71 [(4, .int (iMin v4 (r7 - (μ6.1 b1 3)))), (0, .ref (evA (xV X) 9)), (1, .ref (evA (xV X) b1)), (2, .ref (evA (xV X) b2)), (3, .int v3), (5, .int v5), (6, .int v6)] (by rw [hn]; decide) rfl ?_
        refine so_iload (pc := 73) hX dX2_findFrom_73 5 rfl ?_
        refine so_aload_n (pc := 75) hX dX2_findFrom_75 3 rfl ?_
        refine so_gI (pc := 76) hX dX2_findFrom_76 fl_X2_95 (ekC hL kb2) ?_
        refine so_aload_n (pc := 79) hX dX2_findFrom_79 2 rfl ?_
        refine so_iload (pc := 80) hX dX2_findFrom_80 6 rfl ?_
        obtain ⟨r9, μ8, hr, h⟩ := obd h
        refine so_callV (As := [.int v6]) (rest := [.int (μ6.1 b2 2), .int v5]) (pc := 82) hX dX2_findFrom_82 (c_X0_stackHigh hL kb1 hr) mw_X0_stackHigh mv_X0_stackHigh ml_X2_104 (ekC hL kb1) (by decide) rfl rfl rfl rfl (by omega) (by decide) (Nat.le_of_ble_eq_true rfl) ?_
        refine so_isub (pc := 85) hX dX2_findFrom_85 ?_
        refine so_mmin (pc := 86) hX dX2_findFrom_86 ml_X2_101 (by omega) (Nat.le_of_ble_eq_true rfl) ?_
        refine so_istore (pc := 89) hX dX2_findFrom_89 [(5, .int (iMin v5 ((μ6.1 b2 2) - r9))), (4, .int (iMin v4 (r7 - (μ6.1 b1 3)))), (0, .ref (evA (xV X) 9)), (1, .ref (evA (xV X) b1)), (2, .ref (evA (xV X) b2)), (3, .int v3), (6, .int v6)] (by rw [hn]; decide) rfl ?_
        refine so_iinc (pc := 91) hX dX2_findFrom_91 6 (1 : Int32) [(6, .int (v6 + (1 : Int32))), (5, .int (iMin v5 ((μ6.1 b2 2) - r9))), (4, .int (iMin v4 (r7 - (μ6.1 b1 3)))), (0, .ref (evA (xV X) 9)), (1, .ref (evA (xV X) b1)), (2, .ref (evA (xV X) b2)), (3, .int v3)] rfl (by decide) (by rw [hn]; decide) rfl ?_
        refine so_goto (pc := 94) hX 34 dX2_findFrom_94 (by decide) ?_
        refine so_sub (pc := 34) (lv' := [(0, .ref (evA (xV X) 9)), (1, .ref (evA (xV X) b1)), (2, .ref (evA (xV X) b2)), (3, .int v3), (4, .int (iMin v4 (r7 - (μ6.1 b1 3)))), (5, .int (iMin v5 ((μ6.1 b2 2) - r9))), (6, .int (v6 + (1 : Int32)))]) [3, 4, 5, 6, 2, 1, 0] rfl ?_
        exact ih _ _ _ _ h
set_option maxHeartbeats 4000000 in
set_option maxRecDepth 100000 in
theorem g_X2_findFrom_L100 {X : Cx} (hX : Fx X cX2_findFrom RX2 2) (hL : (xV X).2.2.2 = lyC) (hn : xn X = 8) {rZ : Int32} {μZ : Mem} (hR : Rt X (some .boolean) μZ (some (.int rZ))) {b1 : Nat} {b2 : Nat} {v3 : Int32} {v4 : Int32} {v5 : Int32} (kb1 : kdC b1 = 0) (kb2 : kdC b2 = 4) {K : Mem → Option (Int32 × Mem)} (hK : ∀  (μ : Mem), K μ = some (rZ, μZ) → Gd X 162 [] [] μ) : ∀ (n : Nat) (v6 : Int32) (μ : Mem), f_X2_findFrom_L100 b1 b2 v3 v4 v5 K n v6 μ = some (rZ, μZ) → Gd X 100 [(0, .ref (evA (xV X) 9)), (1, .ref (evA (xV X) b1)), (2, .ref (evA (xV X) b2)), (3, .int v3), (4, .int v4), (5, .int v5), (6, .int v6)] [] μ := by
  intro n
  induction n with
  | zero => intro _ _ h; rw [f_X2_findFrom_L100] at h; cases h
  | succ n ih =>
    intro v6 μ h
    rw [f_X2_findFrom_L100] at h
    refine so_iload (pc := 100) hX dX2_findFrom_100 6 rfl ?_
    refine so_iload (pc := 102) hX dX2_findFrom_102 5 rfl ?_
    refine so_icmp_gt (pc := 104) hX 162 dX2_findFrom_104 (by decide) (fun hc13 => ?_) (fun hc13 => ?_)
    · have h := ip hc13 h
      refine so_sub (pc := 162) (lv' := []) [] rfl ?_
      exact hK _ h
    · have h := iq hc13 h
      refine so_iload (pc := 107) hX dX2_findFrom_107 4 rfl ?_
      refine so_if_lt (pc := 109) hX 162 dX2_findFrom_109 (by decide) (fun hc14 => ?_) (fun hc14 => ?_)
      · have h := ip hc14 h
        refine so_sub (pc := 162) (lv' := []) [] rfl ?_
        exact hK _ h
      · have h := iq hc14 h
        refine so_aload_n (pc := 112) hX dX2_findFrom_112 1 rfl ?_
        refine so_aload_n (pc := 113) hX dX2_findFrom_113 2 rfl ?_
        refine so_iload_n (pc := 114) hX dX2_findFrom_114 3 rfl ?_
        refine so_iload (pc := 115) hX dX2_findFrom_115 6 rfl ?_
        obtain ⟨r16, μ15, hr, h⟩ := obd h
        refine so_callS (As := [.ref (evA (xV X) b1), .ref (evA (xV X) b2), .int v3, .int v6]) (rest := []) (pc := 117) hX dX2_findFrom_117 (c_X2_takenColumns hL kb1 kb2 hr) mw_X2_takenColumns ms_X2_takenColumns ml_X2_107 rfl rfl (by omega) (by decide) (Nat.le_of_ble_eq_true rfl) ?_
        refine so_aload_n (pc := 120) hX dX2_findFrom_120 1 rfl ?_
        refine so_gI (pc := 121) hX dX2_findFrom_121 fl_X2_55 (ekC hL kb1) ?_
        refine so_iload (pc := 124) hX dX2_findFrom_124 4 rfl ?_
        obtain ⟨r18, μ17, hr, h⟩ := obd h
        refine so_callS (As := [.long r16, .int (μ15.1 b1 3), .int v4]) (rest := []) (pc := 126) hX dX2_findFrom_126 (c_X2_firstFree hL hr) mw_X2_firstFree ms_X2_firstFree ml_X2_111 rfl rfl (by omega) (by decide) (Nat.le_of_ble_eq_true rfl) ?_
        refine so_istore (pc := 129) hX dX2_findFrom_129 [(7, .int r18), (0, .ref (evA (xV X) 9)), (1, .ref (evA (xV X) b1)), (2, .ref (evA (xV X) b2)), (3, .int v3), (4, .int v4), (5, .int v5), (6, .int v6)] (by rw [hn]; decide) rfl ?_
        refine so_iload (pc := 131) hX dX2_findFrom_131 0 rfl ?_
        refine so_iconst (v := (-1 : Int32)) (pc := 133) hX dX2_findFrom_133 (by decide) ?_
        refine so_icmp_eq (pc := 134) hX 156 dX2_findFrom_134 (by decide) (fun hc19 => ?_) (fun hc19 => ?_)
        · have h := ip hc19 h
          refine so_iinc (pc := 156) hX dX2_findFrom_156 7 (1 : Int32) [(6, .int (v6 + (1 : Int32))), (7, .int r18), (0, .ref (evA (xV X) 9)), (1, .ref (evA (xV X) b1)), (2, .ref (evA (xV X) b2)), (3, .int v3), (4, .int v4), (5, .int v5)] rfl (by decide) (by rw [hn]; decide) rfl ?_
          refine so_goto (pc := 159) hX 100 dX2_findFrom_159 (by decide) ?_
          refine so_sub (pc := 100) (lv' := [(0, .ref (evA (xV X) 9)), (1, .ref (evA (xV X) b1)), (2, .ref (evA (xV X) b2)), (3, .int v3), (4, .int v4), (5, .int v5), (6, .int (v6 + (1 : Int32)))]) [2, 3, 4, 5, 6, 7, 0] rfl ?_
          exact ih _ _ h
        · have h := iq hc19 h
          refine so_aload_n (pc := 137) hX dX2_findFrom_137 1 rfl ?_
          refine so_iload_n (pc := 138) hX dX2_findFrom_138 4 rfl ?_
          refine so_pI (pc := 139) hX dX2_findFrom_139 fl_X2_115 fw_2_0 (ekC hL rfl) rfl rfl ?_
          refine so_aload_n (pc := 142) hX dX2_findFrom_142 1 rfl ?_
          refine so_iload (pc := 143) hX dX2_findFrom_143 7 rfl ?_
          refine so_pI (pc := 145) hX dX2_findFrom_145 fl_X2_118 fw_2_1 (ekC hL rfl) rfl rfl ?_
          refine so_aload_n (pc := 148) hX dX2_findFrom_148 1 rfl ?_
          refine so_iload (pc := 149) hX dX2_findFrom_149 0 rfl ?_
          refine so_pI (pc := 151) hX dX2_findFrom_151 fl_X2_121 fw_2_2 (ekC hL rfl) rfl rfl ?_
          refine so_iconst (v := (1 : Int32)) (pc := 154) hX dX2_findFrom_154 (by decide) ?_
          exact so_iretH (pc := 155) hX hR h (by decide) dX2_findFrom_155
set_option maxHeartbeats 4000000 in
set_option maxRecDepth 100000 in
theorem c_X2_findFrom {l : Launch} {V : Ev} (hL : V.2.2.2 = lyC) {a1 : Nat} {a2 : Nat} {v3 : Int32} (ka1 : kdC a1 = 0) (ka2 : kdC a2 = 4) {μ : Mem} {rZ : Int32} {μZ : Mem} (h : f_X2_findFrom a1 a2 v3 μ = some (rZ, μZ)) : CT l V yX2_findFrom cX2_findFrom 8 (some .boolean) 2 [.ref (evA V 9), .ref (evA V a1), .ref (evA V a2), .int v3] μ μZ (some (.int rZ)) := by
  refine so_met [(0, .ref (evA V 9)), (1, .ref (evA V a1)), (2, .ref (evA V a2)), (3, .int v3)] (by decide) (Nat.le_of_ble_eq_true rfl) (evCn hL) rfl ?_
  intro X hl hV hn hX hR
  subst hl hV
  unfold f_X2_findFrom at h
  refine so_aload_n (pc := 0) hX dX2_findFrom_0 2 rfl ?_
  refine so_iload_n (pc := 1) hX dX2_findFrom_1 3 rfl ?_
  refine so_aload_n (pc := 2) hX dX2_findFrom_2 1 rfl ?_
  refine so_gI (pc := 3) hX dX2_findFrom_3 fl_X2_70 (ekC hL ka1) ?_
  refine so_iadd (pc := 6) hX dX2_findFrom_6 ?_
  obtain ⟨r2, μ1, hr, h⟩ := obd h
  refine so_callV (As := [.int (v3 + (μ.1 a1 6))]) (rest := []) (pc := 7) hX dX2_findFrom_7 (c_X4_widthOf hL ka2 hr) mw_X4_widthOf mv_X4_widthOf ml_X2_92 (ekC hL ka2) (by decide) rfl rfl rfl rfl (by omega) (by decide) (Nat.le_of_ble_eq_true rfl) ?_
  refine so_aload_n (pc := 10) hX dX2_findFrom_10 1 rfl ?_
  refine so_gI (pc := 11) hX dX2_findFrom_11 fl_X2_55 (ekC hL ka1) ?_
  refine so_isub (pc := 14) hX dX2_findFrom_14 ?_
  refine so_istore (pc := 15) hX dX2_findFrom_15 [(4, .int (r2 - (μ1.1 a1 3))), (0, .ref (evA (xV X) 9)), (1, .ref (evA (xV X) a1)), (2, .ref (evA (xV X) a2)), (3, .int v3)] (by rw [hn]; decide) rfl ?_
  refine so_aload_n (pc := 17) hX dX2_findFrom_17 3 rfl ?_
  refine so_gI (pc := 18) hX dX2_findFrom_18 fl_X2_95 (ekC hL ka2) ?_
  refine so_aload_n (pc := 21) hX dX2_findFrom_21 2 rfl ?_
  refine so_gI (pc := 22) hX dX2_findFrom_22 fl_X2_40 (ekC hL ka1) ?_
  refine so_isub (pc := 25) hX dX2_findFrom_25 ?_
  refine so_istore (pc := 26) hX dX2_findFrom_26 [(5, .int ((μ1.1 a2 2) - (μ1.1 a1 4))), (4, .int (r2 - (μ1.1 a1 3))), (0, .ref (evA (xV X) 9)), (1, .ref (evA (xV X) a1)), (2, .ref (evA (xV X) a2)), (3, .int v3)] (by rw [hn]; decide) rfl ?_
  refine so_aload_n (pc := 28) hX dX2_findFrom_28 3 rfl ?_
  refine so_gI (pc := 29) hX dX2_findFrom_29 fl_X2_70 (ekC hL ka1) ?_
  refine so_istore (pc := 32) hX dX2_findFrom_32 [(6, .int (μ1.1 a1 6)), (5, .int ((μ1.1 a2 2) - (μ1.1 a1 4))), (4, .int (r2 - (μ1.1 a1 3))), (0, .ref (evA (xV X) 9)), (1, .ref (evA (xV X) a1)), (2, .ref (evA (xV X) a2)), (3, .int v3)] (by rw [hn]; decide) rfl ?_
  refine so_sub (pc := 34) (lv' := [(0, .ref (evA (xV X) 9)), (1, .ref (evA (xV X) a1)), (2, .ref (evA (xV X) a2)), (3, .int v3), (4, .int (r2 - (μ1.1 a1 3))), (5, .int ((μ1.1 a2 2) - (μ1.1 a1 4))), (6, .int (μ1.1 a1 6))]) [3, 4, 5, 6, 2, 1, 0] rfl ?_
  refine g_X2_findFrom_L34 hX hL hn hR ka1 ka2 (fun w10 w11 μ12 h => ?_) FU _ _ _ _ h
  refine so_iconst (v := (0 : Int32)) (pc := 97) hX dX2_findFrom_97 (by decide) ?_
  refine so_istore (pc := 98) hX dX2_findFrom_98 [(6, .int (0 : Int32)), (0, .ref (evA (xV X) 9)), (1, .ref (evA (xV X) a1)), (2, .ref (evA (xV X) a2)), (3, .int v3), (4, .int w10), (5, .int w11)] (by rw [hn]; decide) rfl ?_
  refine so_sub (pc := 100) (lv' := [(0, .ref (evA (xV X) 9)), (1, .ref (evA (xV X) a1)), (2, .ref (evA (xV X) a2)), (3, .int v3), (4, .int w10), (5, .int w11), (6, .int (0 : Int32))]) [1, 2, 3, 4, 5, 6, 0] rfl ?_
  refine g_X2_findFrom_L100 hX hL hn hR ka1 ka2 (fun μ20 h => ?_) FU _ _ h
  refine so_iconst (v := (0 : Int32)) (pc := 162) hX dX2_findFrom_162 (by decide) ?_
  exact so_iretH (pc := 163) hX hR h (by decide) dX2_findFrom_163
set_option maxHeartbeats 4000000 in
set_option maxRecDepth 100000 in
theorem g_X2_find_L12 {X : Cx} (hX : Fx X cX2_find RX2 3) (hL : (xV X).2.2.2 = lyC) (hn : xn X = 4) {rZ : Int32} {μZ : Mem} (hR : Rt X (some .boolean) μZ (some (.int rZ))) {b1 : Nat} {b2 : Nat} (kb1 : kdC b1 = 0) (kb2 : kdC b2 = 4) {K : Mem → Option (Int32 × Mem)} (hK : ∀  (μ : Mem), K μ = some (rZ, μZ) → Gd X 43 [] [] μ) : ∀ (n : Nat) (v3 : Int32) (μ : Mem), f_X2_find_L12 b1 b2 K n v3 μ = some (rZ, μZ) → Gd X 12 [(0, .ref (evA (xV X) 9)), (1, .ref (evA (xV X) b1)), (2, .ref (evA (xV X) b2)), (3, .int v3)] [] μ := by
  intro n
  induction n with
  | zero => intro _ _ h; rw [f_X2_find_L12] at h; cases h
  | succ n ih =>
    intro v3 μ h
    rw [f_X2_find_L12] at h
    refine so_iload_n (pc := 12) hX dX2_find_12 3 rfl ?_
    refine so_aload_n (pc := 13) hX dX2_find_13 1 rfl ?_
    refine so_gI (pc := 14) hX dX2_find_14 fl_X2_67 (ekC hL kb1) ?_
    refine so_iadd (pc := 17) hX dX2_find_17 ?_
    refine so_aload_n (pc := 18) hX dX2_find_18 2 rfl ?_
    refine so_gI (pc := 19) hX dX2_find_19 fl_X2_85 (ekC hL kb2) ?_
    refine so_icmp_ge (pc := 22) hX 43 dX2_find_22 (by decide) (fun hc4 => ?_) (fun hc4 => ?_)
    · have h := ip hc4 h
      refine so_sub (pc := 43) (lv' := []) [] rfl ?_
      exact hK _ h
    · have h := iq hc4 h
      refine so_aload_n (pc := 25) hX dX2_find_25 0 rfl ?_
      refine so_aload_n (pc := 26) hX dX2_find_26 1 rfl ?_
      refine so_aload_n (pc := 27) hX dX2_find_27 2 rfl ?_
      refine so_iload_n (pc := 28) hX dX2_find_28 3 rfl ?_
      obtain ⟨r6, μ5, hr, h⟩ := obd h
      refine so_callV (As := [.ref (evA (xV X) b1), .ref (evA (xV X) b2), .int v3]) (rest := []) (pc := 29) hX dX2_find_29 (c_X2_findFrom hL kb1 kb2 hr) mw_X2_findFrom mv_X2_findFrom ml_X2_88 (ekC hL rfl) (by decide) rfl rfl rfl rfl (by omega) (by decide) (Nat.le_of_ble_eq_true rfl) ?_
      refine so_if_eq (pc := 32) hX 37 dX2_find_32 (by decide) (fun hc7 => ?_) (fun hc7 => ?_)
      · have h := ip hc7 h
        refine so_iinc (pc := 37) hX dX2_find_37 3 (1 : Int32) [(3, .int (v3 + (1 : Int32))), (0, .ref (evA (xV X) 9)), (1, .ref (evA (xV X) b1)), (2, .ref (evA (xV X) b2))] rfl (by decide) (by rw [hn]; decide) rfl ?_
        refine so_goto (pc := 40) hX 12 dX2_find_40 (by decide) ?_
        refine so_sub (pc := 12) (lv' := [(0, .ref (evA (xV X) 9)), (1, .ref (evA (xV X) b1)), (2, .ref (evA (xV X) b2)), (3, .int (v3 + (1 : Int32)))]) [1, 2, 3, 0] rfl ?_
        exact ih _ _ h
      · have h := iq hc7 h
        refine so_iconst (v := (1 : Int32)) (pc := 35) hX dX2_find_35 (by decide) ?_
        exact so_iretH (pc := 36) hX hR h (by decide) dX2_find_36
set_option maxHeartbeats 4000000 in
set_option maxRecDepth 100000 in
theorem c_X2_find {l : Launch} {V : Ev} (hL : V.2.2.2 = lyC) {a1 : Nat} {a2 : Nat} (ka1 : kdC a1 = 0) (ka2 : kdC a2 = 4) {μ : Mem} {rZ : Int32} {μZ : Mem} (h : f_X2_find a1 a2 μ = some (rZ, μZ)) : CT l V yX2_find cX2_find 4 (some .boolean) 3 [.ref (evA V 9), .ref (evA V a1), .ref (evA V a2)] μ μZ (some (.int rZ)) := by
  refine so_met [(0, .ref (evA V 9)), (1, .ref (evA V a1)), (2, .ref (evA V a2))] (by decide) (Nat.le_of_ble_eq_true rfl) (evCn hL) rfl ?_
  intro X hl hV hn hX hR
  subst hl hV
  unfold f_X2_find at h
  refine so_aload_n (pc := 0) hX dX2_find_0 1 rfl ?_
  refine so_aload_n (pc := 1) hX dX2_find_1 2 rfl ?_
  obtain ⟨r2, μ1, hr, h⟩ := obd h
  refine so_callS (As := [.ref (evA (xV X) a1), .ref (evA (xV X) a2)]) (rest := []) (pc := 2) hX dX2_find_2 (c_X2_areTonesApart hL ka1 ka2 hr) mw_X2_areTonesApart ms_X2_areTonesApart ml_X2_45 rfl rfl (by omega) (by decide) (Nat.le_of_ble_eq_true rfl) ?_
  refine so_if_eq (pc := 5) hX 10 dX2_find_5 (by decide) (fun hc3 => ?_) (fun hc3 => ?_)
  · have h := ip hc3 h
    refine so_iconst (v := (0 : Int32)) (pc := 10) hX dX2_find_10 (by decide) ?_
    refine so_istore_n (pc := 11) hX dX2_find_11 [(3, .int (0 : Int32)), (0, .ref (evA (xV X) 9)), (1, .ref (evA (xV X) a1)), (2, .ref (evA (xV X) a2))] (by rw [hn]; decide) rfl ?_
    refine so_sub (pc := 12) (lv' := [(0, .ref (evA (xV X) 9)), (1, .ref (evA (xV X) a1)), (2, .ref (evA (xV X) a2)), (3, .int (0 : Int32))]) [1, 2, 3, 0] rfl ?_
    refine g_X2_find_L12 hX hL hn hR ka1 ka2 (fun μ8 h => ?_) FU _ _ h
    refine so_iconst (v := (0 : Int32)) (pc := 43) hX dX2_find_43 (by decide) ?_
    exact so_iretH (pc := 44) hX hR h (by decide) dX2_find_44
  · have h := iq hc3 h
    refine so_iconst (v := (0 : Int32)) (pc := 8) hX dX2_find_8 (by decide) ?_
    exact so_iretH (pc := 9) hX hR h (by decide) dX2_find_9
set_option maxHeartbeats 4000000 in
set_option maxRecDepth 100000 in
theorem c_X3_driftTo {l : Launch} {V : Ev} (hL : V.2.2.2 = lyC) {a0 : Nat} {v1 : Int32} {v2 : Int32} {v3 : Int32} (ka0 : kdC a0 = 3) {μ : Mem} {μZ : Mem} (h : f_X3_driftTo a0 v1 v2 v3 μ = some μZ) : CT l V yX3_driftTo cX3_driftTo 4 none 0 [.ref (evA V a0), .int v1, .int v2, .int v3] μ μZ none := by
  refine so_met [(0, .ref (evA V a0)), (1, .int v1), (2, .int v2), (3, .int v3)] (by decide) (Nat.le_of_ble_eq_true rfl) (evCn hL) rfl ?_
  intro X hl hV hn hX hR
  subst hl hV
  unfold f_X3_driftTo at h
  refine so_aload_n (pc := 0) hX dX3_driftTo_0 0 rfl ?_
  refine so_iload_n (pc := 1) hX dX3_driftTo_1 1 rfl ?_
  refine so_pI (pc := 2) hX dX3_driftTo_2 fl_X3_29 fw_3_1 (ekC hL ka0) rfl rfl ?_
  refine so_aload_n (pc := 5) hX dX3_driftTo_5 0 rfl ?_
  refine so_iload_n (pc := 6) hX dX3_driftTo_6 2 rfl ?_
  refine so_pI (pc := 7) hX dX3_driftTo_7 fl_X3_32 fw_3_6 (ekC hL ka0) rfl rfl ?_
  refine so_aload_n (pc := 10) hX dX3_driftTo_10 0 rfl ?_
  refine so_iload_n (pc := 11) hX dX3_driftTo_11 3 rfl ?_
  refine so_pI (pc := 12) hX dX3_driftTo_12 fl_X3_35 fw_3_7 (ekC hL ka0) rfl rfl ?_
  exact so_vretH (pc := 15) hX hR h dX3_driftTo_15
set_option maxHeartbeats 4000000 in
set_option maxRecDepth 100000 in
theorem c_X3_begin {l : Launch} {V : Ev} (hL : V.2.2.2 = lyC) {a0 : Nat} {v1 : Int32} {v2 : Int32} {v3 : Int32} {v4 : Int32} {v5 : Int32} (ka0 : kdC a0 = 3) {μ : Mem} {μZ : Mem} (h : f_X3_begin a0 v1 v2 v3 v4 v5 μ = some μZ) : CT l V yX3_begin cX3_begin 6 none 1 [.ref (evA V a0), .int v1, .int v2, .int v3, .int v4, .int v5] μ μZ none := by
  refine so_met [(0, .ref (evA V a0)), (1, .int v1), (2, .int v2), (3, .int v3), (4, .int v4), (5, .int v5)] (by decide) (Nat.le_of_ble_eq_true rfl) (evCn hL) rfl ?_
  intro X hl hV hn hX hR
  subst hl hV
  unfold f_X3_begin at h
  refine so_aload_n (pc := 0) hX dX3_begin_0 0 rfl ?_
  refine so_iload_n (pc := 1) hX dX3_begin_1 1 rfl ?_
  refine so_pI (pc := 2) hX dX3_begin_2 fl_X3_7 fw_3_0 (ekC hL ka0) rfl rfl ?_
  refine so_aload_n (pc := 5) hX dX3_begin_5 0 rfl ?_
  refine so_iload_n (pc := 6) hX dX3_begin_6 2 rfl ?_
  refine so_pI (pc := 7) hX dX3_begin_7 fl_X3_13 fw_3_2 (ekC hL ka0) rfl rfl ?_
  refine so_aload_n (pc := 10) hX dX3_begin_10 0 rfl ?_
  refine so_iload_n (pc := 11) hX dX3_begin_11 3 rfl ?_
  refine so_pI (pc := 12) hX dX3_begin_12 fl_X3_16 fw_3_3 (ekC hL ka0) rfl rfl ?_
  refine so_aload_n (pc := 15) hX dX3_begin_15 0 rfl ?_
  refine so_iload (pc := 16) hX dX3_begin_16 4 rfl ?_
  refine so_pI (pc := 18) hX dX3_begin_18 fl_X3_19 fw_3_4 (ekC hL ka0) rfl rfl ?_
  refine so_aload_n (pc := 21) hX dX3_begin_21 0 rfl ?_
  refine so_iload (pc := 22) hX dX3_begin_22 5 rfl ?_
  refine so_pI (pc := 24) hX dX3_begin_24 fl_X3_22 fw_3_5 (ekC hL ka0) rfl rfl ?_
  refine so_aload_n (pc := 27) hX dX3_begin_27 0 rfl ?_
  refine so_iload_n (pc := 28) hX dX3_begin_28 1 rfl ?_
  refine so_iconst (v := (0 : Int32)) (pc := 29) hX dX3_begin_29 (by decide) ?_
  refine so_iconst (v := (0 : Int32)) (pc := 30) hX dX3_begin_30 (by decide) ?_
  obtain ⟨μ1, hr, h⟩ := ob h
  refine so_callV (As := [.int v1, .int (0 : Int32), .int (0 : Int32)]) (rest := []) (pc := 31) hX dX3_begin_31 (c_X3_driftTo hL ka0 hr) mw_X3_driftTo mv_X3_driftTo ml_X3_25 (ekC hL ka0) (by decide) rfl rfl rfl rfl (by omega) (by decide) (Nat.le_of_ble_eq_true rfl) ?_
  exact so_vretH (pc := 34) hX hR h dX3_begin_34
set_option maxHeartbeats 4000000 in
set_option maxRecDepth 100000 in
theorem c_X3_leftIn {l : Launch} {V : Ev} (hL : V.2.2.2 = lyC) {a0 : Nat} {v1 : Int32} (ka0 : kdC a0 = 3) {μ : Mem} {rZ : Int32} {μZ : Mem} (h : f_X3_leftIn a0 v1 μ = some (rZ, μZ)) : CT l V yX3_leftIn cX3_leftIn 2 (some .int) 0 [.ref (evA V a0), .int v1] μ μZ (some (.int rZ)) := by
  refine so_met [(0, .ref (evA V a0)), (1, .int v1)] (by decide) (Nat.le_of_ble_eq_true rfl) (evCn hL) rfl ?_
  intro X hl hV hn hX hR
  subst hl hV
  unfold f_X3_leftIn at h
  refine so_aload_n (pc := 0) hX dX3_leftIn_0 0 rfl ?_
  refine so_gI (pc := 1) hX dX3_leftIn_1 fl_X3_13 (ekC hL ka0) ?_
  refine so_iload_n (pc := 4) hX dX3_leftIn_4 1 rfl ?_
  refine so_aload_n (pc := 5) hX dX3_leftIn_5 0 rfl ?_
  refine so_gI (pc := 6) hX dX3_leftIn_6 fl_X3_7 (ekC hL ka0) ?_
  refine so_isub (pc := 9) hX dX3_leftIn_9 ?_
  refine so_aload_n (pc := 10) hX dX3_leftIn_10 0 rfl ?_
  refine so_gI (pc := 11) hX dX3_leftIn_11 fl_X3_32 (ekC hL ka0) ?_
  refine so_imul (pc := 14) hX dX3_leftIn_14 ?_
  refine so_iadd (pc := 15) hX dX3_leftIn_15 ?_
  exact so_iretH (pc := 16) hX hR h rfl dX3_leftIn_16
set_option maxHeartbeats 4000000 in
set_option maxRecDepth 100000 in
theorem c_X3_topIn {l : Launch} {V : Ev} (hL : V.2.2.2 = lyC) {a0 : Nat} {v1 : Int32} (ka0 : kdC a0 = 3) {μ : Mem} {rZ : Int32} {μZ : Mem} (h : f_X3_topIn a0 v1 μ = some (rZ, μZ)) : CT l V yX3_topIn cX3_topIn 2 (some .int) 0 [.ref (evA V a0), .int v1] μ μZ (some (.int rZ)) := by
  refine so_met [(0, .ref (evA V a0)), (1, .int v1)] (by decide) (Nat.le_of_ble_eq_true rfl) (evCn hL) rfl ?_
  intro X hl hV hn hX hR
  subst hl hV
  unfold f_X3_topIn at h
  refine so_aload_n (pc := 0) hX dX3_topIn_0 0 rfl ?_
  refine so_gI (pc := 1) hX dX3_topIn_1 fl_X3_16 (ekC hL ka0) ?_
  refine so_iload_n (pc := 4) hX dX3_topIn_4 1 rfl ?_
  refine so_aload_n (pc := 5) hX dX3_topIn_5 0 rfl ?_
  refine so_gI (pc := 6) hX dX3_topIn_6 fl_X3_7 (ekC hL ka0) ?_
  refine so_isub (pc := 9) hX dX3_topIn_9 ?_
  refine so_aload_n (pc := 10) hX dX3_topIn_10 0 rfl ?_
  refine so_gI (pc := 11) hX dX3_topIn_11 fl_X3_35 (ekC hL ka0) ?_
  refine so_imul (pc := 14) hX dX3_topIn_14 ?_
  refine so_iadd (pc := 15) hX dX3_topIn_15 ?_
  exact so_iretH (pc := 16) hX hR h rfl dX3_topIn_16
set_option maxHeartbeats 4000000 in
set_option maxRecDepth 100000 in
theorem c_X3_overlaps {l : Launch} {V : Ev} (hL : V.2.2.2 = lyC) {a0 : Nat} {v1 : Int32} {v2 : Int32} {v3 : Int32} {v4 : Int32} {v5 : Int32} (ka0 : kdC a0 = 3) {μ : Mem} {rZ : Int32} {μZ : Mem} (h : f_X3_overlaps a0 v1 v2 v3 v4 v5 μ = some (rZ, μZ)) : CT l V yX3_overlaps cX3_overlaps 6 (some .boolean) 1 [.ref (evA V a0), .int v1, .int v2, .int v3, .int v4, .int v5] μ μZ (some (.int rZ)) := by
  refine so_met [(0, .ref (evA V a0)), (1, .int v1), (2, .int v2), (3, .int v3), (4, .int v4), (5, .int v5)] (by decide) (Nat.le_of_ble_eq_true rfl) (evCn hL) rfl ?_
  intro X hl hV hn hX hR
  subst hl hV
  unfold f_X3_overlaps at h
  refine so_iload_n (pc := 0) hX dX3_overlaps_0 1 rfl ?_
  refine so_aload_n (pc := 1) hX dX3_overlaps_1 0 rfl ?_
  refine so_gI (pc := 2) hX dX3_overlaps_2 fl_X3_7 (ekC hL ka0) ?_
  refine so_aload_n (pc := 5) hX dX3_overlaps_5 0 rfl ?_
  refine so_gI (pc := 6) hX dX3_overlaps_6 fl_X3_29 (ekC hL ka0) ?_
  obtain ⟨r2, μ1, hr, h⟩ := obd h
  refine so_callSN (As := [.int v1, .int (μ.1 a0 0), .int (μ.1 a0 1)]) (rest := []) (pc := 9) hX dX3_overlaps_9 (c_X9_isFrom hL hr) mw_X9_isFrom ms_X9_isFrom ml_X3_38 rfl rfl (by omega) (by decide) (Nat.le_of_ble_eq_true rfl) ?_
  refine so_if_eq (pc := 12) hX 71 dX3_overlaps_12 (by decide) (fun hc3 => ?_) (fun hc3 => ?_)
  · have h := ip hc3 h
    refine so_iconst (v := (0 : Int32)) (pc := 71) hX dX3_overlaps_71 (by decide) ?_
    exact so_iretH (pc := 72) hX hR h (by decide) dX3_overlaps_72
  · have h := iq hc3 h
    refine so_aload_n (pc := 15) hX dX3_overlaps_15 0 rfl ?_
    refine so_iload_n (pc := 16) hX dX3_overlaps_16 1 rfl ?_
    obtain ⟨r5, μ4, hr, h⟩ := obd h
    refine so_callV (As := [.int v1]) (rest := []) (pc := 17) hX dX3_overlaps_17 (c_X3_leftIn hL ka0 hr) mw_X3_leftIn mv_X3_leftIn ml_X3_44 (ekC hL ka0) (by decide) rfl rfl rfl rfl (by omega) (by decide) (Nat.le_of_ble_eq_true rfl) ?_
    refine so_iload_n (pc := 20) hX dX3_overlaps_20 2 rfl ?_
    refine so_iload (pc := 21) hX dX3_overlaps_21 4 rfl ?_
    refine so_iadd (pc := 23) hX dX3_overlaps_23 ?_
    refine so_icmp_ge (pc := 24) hX 71 dX3_overlaps_24 (by decide) (fun hc6 => ?_) (fun hc6 => ?_)
    · have h := ip hc6 h
      refine so_iconst (v := (0 : Int32)) (pc := 71) hX dX3_overlaps_71 (by decide) ?_
      exact so_iretH (pc := 72) hX hR h (by decide) dX3_overlaps_72
    · have h := iq hc6 h
      refine so_iload_n (pc := 27) hX dX3_overlaps_27 2 rfl ?_
      refine so_aload_n (pc := 28) hX dX3_overlaps_28 0 rfl ?_
      refine so_iload_n (pc := 29) hX dX3_overlaps_29 1 rfl ?_
      obtain ⟨r8, μ7, hr, h⟩ := obd h
      refine so_callV (As := [.int v1]) (rest := [.int v2]) (pc := 30) hX dX3_overlaps_30 (c_X3_leftIn hL ka0 hr) mw_X3_leftIn mv_X3_leftIn ml_X3_44 (ekC hL ka0) (by decide) rfl rfl rfl rfl (by omega) (by decide) (Nat.le_of_ble_eq_true rfl) ?_
      refine so_aload_n (pc := 33) hX dX3_overlaps_33 0 rfl ?_
      refine so_gI (pc := 34) hX dX3_overlaps_34 fl_X3_19 (ekC hL ka0) ?_
      refine so_iadd (pc := 37) hX dX3_overlaps_37 ?_
      refine so_icmp_ge (pc := 38) hX 71 dX3_overlaps_38 (by decide) (fun hc9 => ?_) (fun hc9 => ?_)
      · have h := ip hc9 h
        refine so_iconst (v := (0 : Int32)) (pc := 71) hX dX3_overlaps_71 (by decide) ?_
        exact so_iretH (pc := 72) hX hR h (by decide) dX3_overlaps_72
      · have h := iq hc9 h
        refine so_aload_n (pc := 41) hX dX3_overlaps_41 0 rfl ?_
        refine so_iload_n (pc := 42) hX dX3_overlaps_42 1 rfl ?_
        obtain ⟨r11, μ10, hr, h⟩ := obd h
        refine so_callV (As := [.int v1]) (rest := []) (pc := 43) hX dX3_overlaps_43 (c_X3_topIn hL ka0 hr) mw_X3_topIn mv_X3_topIn ml_X3_48 (ekC hL ka0) (by decide) rfl rfl rfl rfl (by omega) (by decide) (Nat.le_of_ble_eq_true rfl) ?_
        refine so_iload_n (pc := 46) hX dX3_overlaps_46 3 rfl ?_
        refine so_iload (pc := 47) hX dX3_overlaps_47 5 rfl ?_
        refine so_iadd (pc := 49) hX dX3_overlaps_49 ?_
        refine so_icmp_ge (pc := 50) hX 71 dX3_overlaps_50 (by decide) (fun hc12 => ?_) (fun hc12 => ?_)
        · have h := ip hc12 h
          refine so_iconst (v := (0 : Int32)) (pc := 71) hX dX3_overlaps_71 (by decide) ?_
          exact so_iretH (pc := 72) hX hR h (by decide) dX3_overlaps_72
        · have h := iq hc12 h
          refine so_iload_n (pc := 53) hX dX3_overlaps_53 3 rfl ?_
          refine so_aload_n (pc := 54) hX dX3_overlaps_54 0 rfl ?_
          refine so_iload_n (pc := 55) hX dX3_overlaps_55 1 rfl ?_
          obtain ⟨r14, μ13, hr, h⟩ := obd h
          refine so_callV (As := [.int v1]) (rest := [.int v3]) (pc := 56) hX dX3_overlaps_56 (c_X3_topIn hL ka0 hr) mw_X3_topIn mv_X3_topIn ml_X3_48 (ekC hL ka0) (by decide) rfl rfl rfl rfl (by omega) (by decide) (Nat.le_of_ble_eq_true rfl) ?_
          refine so_aload_n (pc := 59) hX dX3_overlaps_59 0 rfl ?_
          refine so_gI (pc := 60) hX dX3_overlaps_60 fl_X3_22 (ekC hL ka0) ?_
          refine so_iadd (pc := 63) hX dX3_overlaps_63 ?_
          refine so_icmp_ge (pc := 64) hX 71 dX3_overlaps_64 (by decide) (fun hc15 => ?_) (fun hc15 => ?_)
          · have h := ip hc15 h
            refine so_iconst (v := (0 : Int32)) (pc := 71) hX dX3_overlaps_71 (by decide) ?_
            exact so_iretH (pc := 72) hX hR h (by decide) dX3_overlaps_72
          · have h := iq hc15 h
            refine so_iconst (v := (1 : Int32)) (pc := 67) hX dX3_overlaps_67 (by decide) ?_
            refine so_goto (pc := 68) hX 72 dX3_overlaps_68 (by decide) ?_
            exact so_iretH (pc := 72) hX hR h (by decide) dX3_overlaps_72
set_option maxHeartbeats 4000000 in
set_option maxRecDepth 100000 in
theorem g_J7_fill_d0a16_L6 {X : Cx} (hX : Fx X cJ7_fill_d0a16 RJ7 0) (hL : (xV X).2.2.2 = lyC) (hn : xn X = 5) {μZ : Mem} (hR : Rt X none μZ none) {n0 : Nat} {b0 : Nat} {v1 : Int64} {v4 : Int32} (kb0 : kdC b0 = 12) (nb0 : lnC b0 = n0) {K : Mem → Option (Mem)} (hK : ∀  (μ : Mem), K μ = some μZ → Gd X 22 [] [] μ) : ∀ (n : Nat) (v3 : Int32) (μ : Mem), f_J7_fill_d0a16_L6 n0 b0 v1 v4 K n v3 μ = some μZ → Gd X 6 [(0, .ref (evA (xV X) b0)), (1, .long v1), (3, .int v3), (4, .int v4)] [] μ := by
  intro n
  induction n with
  | zero => intro _ _ h; rw [f_J7_fill_d0a16_L6] at h; cases h
  | succ n ih =>
    intro v3 μ h
    rw [f_J7_fill_d0a16_L6] at h
    refine so_iload_n (pc := 6) hX dJ7_fill_d0a16_6 2 rfl ?_
    refine so_iload (pc := 7) hX dJ7_fill_d0a16_7 3 rfl ?_
    refine so_icmp_ge (pc := 9) hX 22 dJ7_fill_d0a16_9 (by decide) (fun hc1 => ?_) (fun hc1 => ?_)
    · have h := ip hc1 h
      refine so_sub (pc := 22) (lv' := []) [] rfl ?_
      exact hK _ h
    · have h := iq hc1 h
      refine so_aload_n (pc := 12) hX dJ7_fill_d0a16_12 0 rfl ?_
      refine so_iload_n (pc := 13) hX dJ7_fill_d0a16_13 2 rfl ?_
      refine so_lload_n (pc := 14) hX dJ7_fill_d0a16_14 1 rfl ?_
      obtain ⟨μ2, hr, h⟩ := ob h
      refine so_last (pc := 15) hX dJ7_fill_d0a16_15 (ekC hL kb0) (elC hL nb0) hr ?_
      refine so_iinc (pc := 16) hX dJ7_fill_d0a16_16 2 (1 : Int32) [(3, .int (v3 + (1 : Int32))), (0, .ref (evA (xV X) b0)), (1, .long v1), (4, .int v4)] rfl (by decide) (by rw [hn]; decide) rfl ?_
      refine so_goto (pc := 19) hX 6 dJ7_fill_d0a16_19 (by decide) ?_
      refine so_sub (pc := 6) (lv' := [(0, .ref (evA (xV X) b0)), (1, .long v1), (3, .int (v3 + (1 : Int32))), (4, .int v4)]) [1, 2, 0, 3] rfl ?_
      exact ih _ _ h
set_option maxHeartbeats 4000000 in
set_option maxRecDepth 100000 in
theorem c_J7_fill_d0a16 {l : Launch} {V : Ev} (hL : V.2.2.2 = lyC) {n0 : Nat} {a0 : Nat} {v1 : Int64} (ka0 : kdC a0 = 12) (na0 : lnC a0 = n0) {μ : Mem} {μZ : Mem} (h : f_J7_fill_d0a16 n0 a0 v1 μ = some μZ) : CT l V yJ7_fill_d0a16 cJ7_fill_d0a16 5 none 0 [.ref (evA V a0), .long v1] μ μZ none := by
  refine so_met [(0, .ref (evA V a0)), (1, .long v1)] (by decide) (Nat.le_of_ble_eq_true rfl) (evCn hL) rfl ?_
  intro X hl hV hn hX hR
  subst hl hV
  unfold f_J7_fill_d0a16 at h
  refine so_iconst (v := (0 : Int32)) (pc := 0) hX dJ7_fill_d0a16_0 (by decide) ?_
  refine so_istore_n (pc := 1) hX dJ7_fill_d0a16_1 [(3, .int (0 : Int32)), (0, .ref (evA (xV X) a0)), (1, .long v1)] (by rw [hn]; decide) rfl ?_
  refine so_aload_n (pc := 2) hX dJ7_fill_d0a16_2 1 rfl ?_
  refine so_alenJ (pc := 3) hX dJ7_fill_d0a16_3 (ekC hL ka0) (elC hL na0) ?_
  refine so_istore (pc := 4) hX dJ7_fill_d0a16_4 [(4, .int (nI n0)), (3, .int (0 : Int32)), (0, .ref (evA (xV X) a0)), (1, .long v1)] (by rw [hn]; decide) rfl ?_
  refine so_sub (pc := 6) (lv' := [(0, .ref (evA (xV X) a0)), (1, .long v1), (3, .int (0 : Int32)), (4, .int (nI n0))]) [2, 3, 1, 0] rfl ?_
  refine g_J7_fill_d0a16_L6 hX hL hn hR ka0 na0 (fun μ3 h => ?_) FU _ _ h
  exact so_vretH (pc := 22) hX hR h dJ7_fill_d0a16_22
set_option maxHeartbeats 4000000 in
set_option maxRecDepth 100000 in
theorem c_X4_begin {l : Launch} {V : Ev} (hL : V.2.2.2 = lyC) {a0 : Nat} {v1 : Int32} {v2 : Int32} {v3 : Int32} {v4 : Int32} (ka0 : kdC a0 = 4) {μ : Mem} {μZ : Mem} (h : f_X4_begin a0 v1 v2 v3 v4 μ = some μZ) : CT l V yX4_begin cX4_begin 5 none 1 [.ref (evA V a0), .int v1, .int v2, .int v3, .int v4] μ μZ none := by
  refine so_met [(0, .ref (evA V a0)), (1, .int v1), (2, .int v2), (3, .int v3), (4, .int v4)] (by decide) (Nat.le_of_ble_eq_true rfl) (evCn hL) rfl ?_
  intro X hl hV hn hX hR
  subst hl hV
  unfold f_X4_begin at h
  refine so_aload_n (pc := 0) hX dX4_begin_0 0 rfl ?_
  refine so_iconst (v := (1 : Int32)) (pc := 1) hX dX4_begin_1 (by decide) ?_
  refine so_pI (pc := 2) hX dX4_begin_2 fl_X4_29 fw_4_0 (ekC hL ka0) rfl rfl ?_
  refine so_aload_n (pc := 5) hX dX4_begin_5 0 rfl ?_
  refine so_iload_n (pc := 6) hX dX4_begin_6 1 rfl ?_
  refine so_pI (pc := 7) hX dX4_begin_7 fl_X4_33 fw_4_1 (ekC hL ka0) rfl rfl ?_
  refine so_aload_n (pc := 10) hX dX4_begin_10 0 rfl ?_
  refine so_iload_n (pc := 11) hX dX4_begin_11 2 rfl ?_
  refine so_pI (pc := 12) hX dX4_begin_12 fl_X4_37 fw_4_2 (ekC hL ka0) rfl rfl ?_
  refine so_aload_n (pc := 15) hX dX4_begin_15 0 rfl ?_
  refine so_iload_n (pc := 16) hX dX4_begin_16 3 rfl ?_
  refine so_pI (pc := 17) hX dX4_begin_17 fl_X4_40 fw_4_6 (ekC hL ka0) rfl rfl ?_
  refine so_aload_n (pc := 20) hX dX4_begin_20 0 rfl ?_
  refine so_iload (pc := 21) hX dX4_begin_21 4 rfl ?_
  refine so_pI (pc := 23) hX dX4_begin_23 fl_X4_43 fw_4_7 (ekC hL ka0) rfl rfl ?_
  refine so_aload_n (pc := 26) hX dX4_begin_26 0 rfl ?_
  refine so_iconst (v := (0 : Int32)) (pc := 27) hX dX4_begin_27 (by decide) ?_
  refine so_pI (pc := 28) hX dX4_begin_28 fl_X4_46 fw_4_3 (ekC hL ka0) rfl rfl ?_
  refine so_aload_n (pc := 31) hX dX4_begin_31 0 rfl ?_
  refine so_iconst (v := (0 : Int32)) (pc := 32) hX dX4_begin_32 (by decide) ?_
  refine so_pI (pc := 33) hX dX4_begin_33 fl_X4_49 fw_4_4 (ekC hL ka0) rfl rfl ?_
  refine so_aload_n (pc := 36) hX dX4_begin_36 0 rfl ?_
  refine so_iconst (v := (0 : Int32)) (pc := 37) hX dX4_begin_37 (by decide) ?_
  refine so_pI (pc := 38) hX dX4_begin_38 fl_X4_52 fw_4_8 (ekC hL ka0) rfl rfl ?_
  refine so_aload_n (pc := 41) hX dX4_begin_41 0 rfl ?_
  refine so_gR (pc := 42) hX (a0 + 1) dX4_begin_42 fl_X4_9 (ekC hL ka0) (erC hL (rq_4_5 ka0)) ?_
  refine so_iconst (v := (0 : Int32)) (pc := 45) hX dX4_begin_45 (by decide) ?_
  obtain ⟨μ1, hr, h⟩ := ob h
  refine so_callS (As := [.ref (evA (xV X) (a0 + 1)), .int (0 : Int32)]) (rest := []) (pc := 46) hX dX4_begin_46 (c_J7_fill_53178 hL (kq_4_5 ka0) (nq_4_5 ka0) hr) mw_J7_fill_53178 ms_J7_fill_53178 ml_X4_55 rfl rfl (by omega) (by decide) (Nat.le_of_ble_eq_true rfl) ?_
  refine so_aload_n (pc := 49) hX dX4_begin_49 0 rfl ?_
  refine so_gR (pc := 50) hX (a0 + 3) dX4_begin_50 fl_X4_21 (ekC hL ka0) (erC hL (rq_4_10 ka0)) ?_
  refine so_lconst (v := (0 : Int64)) (pc := 53) hX dX4_begin_53 (by decide) ?_
  obtain ⟨μ2, hr, h⟩ := ob h
  refine so_callS (As := [.ref (evA (xV X) (a0 + 3)), .long (0 : Int64)]) (rest := []) (pc := 54) hX dX4_begin_54 (c_J7_fill_d0a16 hL (kq_4_10 ka0) (nq_4_10 ka0) hr) mw_J7_fill_d0a16 ms_J7_fill_d0a16 ml_X4_61 rfl rfl (by omega) (by decide) (Nat.le_of_ble_eq_true rfl) ?_
  refine so_aload_n (pc := 57) hX dX4_begin_57 0 rfl ?_
  refine so_gR (pc := 58) hX (a0 + 4) dX4_begin_58 fl_X4_25 (ekC hL ka0) (erC hL (rq_4_11 ka0)) ?_
  refine so_lconst (v := (0 : Int64)) (pc := 61) hX dX4_begin_61 (by decide) ?_
  obtain ⟨μ3, hr, h⟩ := ob h
  refine so_callS (As := [.ref (evA (xV X) (a0 + 4)), .long (0 : Int64)]) (rest := []) (pc := 62) hX dX4_begin_62 (c_J7_fill_d0a16 hL (kq_4_11 ka0) (nq_4_11 ka0) hr) mw_J7_fill_d0a16 ms_J7_fill_d0a16 ml_X4_61 rfl rfl (by omega) (by decide) (Nat.le_of_ble_eq_true rfl) ?_
  exact so_vretH (pc := 65) hX hR h dX4_begin_65
set_option maxHeartbeats 4000000 in
set_option maxRecDepth 100000 in
theorem c_X4_toneOf {l : Launch} {V : Ev} (hL : V.2.2.2 = lyC) {a0 : Nat} {v1 : Int32} (ka0 : kdC a0 = 4) {μ : Mem} {rZ : Int32} {μZ : Mem} (h : f_X4_toneOf a0 v1 μ = some (rZ, μZ)) : CT l V yX4_toneOf cX4_toneOf 2 (some .int) 0 [.ref (evA V a0), .int v1] μ μZ (some (.int rZ)) := by
  refine so_met [(0, .ref (evA V a0)), (1, .int v1)] (by decide) (Nat.le_of_ble_eq_true rfl) (evCn hL) rfl ?_
  intro X hl hV hn hX hR
  subst hl hV
  unfold f_X4_toneOf at h
  refine so_aload_n (pc := 0) hX dX4_toneOf_0 0 rfl ?_
  refine so_gI (pc := 1) hX dX4_toneOf_1 fl_X4_46 (ekC hL ka0) ?_
  refine so_iload_n (pc := 4) hX dX4_toneOf_4 1 rfl ?_
  refine so_aload_n (pc := 5) hX dX4_toneOf_5 0 rfl ?_
  refine so_gI (pc := 6) hX dX4_toneOf_6 fl_X4_49 (ekC hL ka0) ?_
  refine so_imul (pc := 9) hX dX4_toneOf_9 ?_
  refine so_iadd (pc := 10) hX dX4_toneOf_10 ?_
  exact so_iretH (pc := 11) hX hR h rfl dX4_toneOf_11
set_option maxHeartbeats 4000000 in
set_option maxRecDepth 100000 in
theorem g_X4_markFlaw_L85 {X : Cx} (hX : Fx X cX4_markFlaw RX4 2) (hL : (xV X).2.2.2 = lyC) (hn : xn X = 8) {μZ : Mem} (hR : Rt X none μZ none) {b0 : Nat} {b1 : Nat} {v2 : Int32} {v3 : Int32} {v4 : Int32} {v6 : Int32} (kb0 : kdC b0 = 4) (kb1 : kdC b1 = 3) {K : Mem → Option (Mem)} (hK : ∀  (μ : Mem), K μ = some μZ → Gd X 127 [(0, .ref (evA (xV X) b0)), (1, .ref (evA (xV X) b1)), (2, .int v2)] [] μ) : ∀ (n : Nat) (v7 : Int32) (μ : Mem), f_X4_markFlaw_L85 b0 b1 v2 v3 v4 v6 K n v7 μ = some μZ → Gd X 85 [(0, .ref (evA (xV X) b0)), (1, .ref (evA (xV X) b1)), (2, .int v2), (3, .int v3), (4, .int v4), (6, .int v6), (7, .int v7)] [] μ := by
  intro n
  induction n with
  | zero => intro _ _ h; rw [f_X4_markFlaw_L85] at h; cases h
  | succ n ih =>
    intro v7 μ h
    rw [f_X4_markFlaw_L85] at h
    refine so_iload (pc := 85) hX dX4_markFlaw_85 6 rfl ?_
    refine so_iload (pc := 87) hX dX4_markFlaw_87 5 rfl ?_
    refine so_icmp_ge (pc := 89) hX 127 dX4_markFlaw_89 (by decide) (fun hc13 => ?_) (fun hc13 => ?_)
    · have h := ip hc13 h
      refine so_sub (pc := 127) (lv' := [(0, .ref (evA (xV X) b0)), (1, .ref (evA (xV X) b1)), (2, .int v2)]) [0, 1, 2] rfl ?_
      exact hK _ h
    · have h := iq hc13 h
      refine so_iload_n (pc := 92) hX dX4_markFlaw_92 3 rfl ?_
      refine so_iload (pc := 93) hX dX4_markFlaw_93 4 rfl ?_
      refine so_icmp_ge (pc := 95) hX 127 dX4_markFlaw_95 (by decide) (fun hc14 => ?_) (fun hc14 => ?_)
      · have h := ip hc14 h
        refine so_sub (pc := 127) (lv' := [(0, .ref (evA (xV X) b0)), (1, .ref (evA (xV X) b1)), (2, .int v2)]) [0, 1, 2] rfl ?_
        exact hK _ h
      · have h := iq hc14 h
        refine so_aload_n (pc := 98) hX dX4_markFlaw_98 0 rfl ?_
        refine so_gR (pc := 99) hX (b0 + 3) dX4_markFlaw_99 fl_X4_21 (ekC hL kb0) (erC hL (rq_4_10 kb0)) ?_
        refine so_iload_n (pc := 102) hX dX4_markFlaw_102 2 rfl ?_
        refine so_bipush (v := (60 : Int32)) (pc := 103) hX dX4_markFlaw_103 (by decide) ?_
        refine so_imul (pc := 105) hX dX4_markFlaw_105 ?_
        refine so_iload (pc := 106) hX dX4_markFlaw_106 6 rfl ?_
        refine so_iadd (pc := 108) hX dX4_markFlaw_108 ?_
        refine so_dup2 (pc := 109) hX dX4_markFlaw_109 rfl rfl ?_
        obtain ⟨e15, hr, h⟩ := ob h
        refine so_lald (pc := 110) hX dX4_markFlaw_110 (ekC hL (kq_4_10 kb0)) (elC hL (nq_4_10 kb0)) hr ?_
        refine so_iload_n (pc := 111) hX dX4_markFlaw_111 3 rfl ?_
        refine so_iload (pc := 112) hX dX4_markFlaw_112 4 rfl ?_
        refine so_iload_n (pc := 114) hX dX4_markFlaw_114 3 rfl ?_
        refine so_isub (pc := 115) hX dX4_markFlaw_115 ?_
        obtain ⟨r17, μ16, hr, h⟩ := obd h
        refine so_callS (As := [.int v3, .int (v4 - v3)]) (rest := [.long e15, .int ((v2 * (60 : Int32)) + v7), .ref (evA (xV X) (b0 + 3))]) (pc := 116) hX dX4_markFlaw_116 (c_X4_mask hL hr) mw_X4_mask ms_X4_mask ml_X4_105 rfl rfl (by omega) (by decide) (Nat.le_of_ble_eq_true rfl) ?_
        refine so_lor (pc := 119) hX dX4_markFlaw_119 ?_
        obtain ⟨μ18, hr, h⟩ := ob h
        refine so_last (pc := 120) hX dX4_markFlaw_120 (ekC hL (kq_4_10 kb0)) (elC hL (nq_4_10 kb0)) hr ?_
        refine so_iinc (pc := 121) hX dX4_markFlaw_121 6 (1 : Int32) [(7, .int (v7 + (1 : Int32))), (0, .ref (evA (xV X) b0)), (1, .ref (evA (xV X) b1)), (2, .int v2), (3, .int v3), (4, .int v4), (6, .int v6)] rfl (by decide) (by rw [hn]; decide) rfl ?_
        refine so_goto (pc := 124) hX 85 dX4_markFlaw_124 (by decide) ?_
        refine so_sub (pc := 85) (lv' := [(0, .ref (evA (xV X) b0)), (1, .ref (evA (xV X) b1)), (2, .int v2), (3, .int v3), (4, .int v4), (6, .int v6), (7, .int (v7 + (1 : Int32)))]) [1, 2, 3, 4, 5, 6, 0] rfl ?_
        exact ih _ _ h
set_option maxHeartbeats 4000000 in
set_option maxRecDepth 100000 in
theorem g_X4_markFlaw_L5 {X : Cx} (hX : Fx X cX4_markFlaw RX4 2) (hL : (xV X).2.2.2 = lyC) (hn : xn X = 8) {μZ : Mem} (hR : Rt X none μZ none) {b0 : Nat} {b1 : Nat} (kb0 : kdC b0 = 4) (kb1 : kdC b1 = 3) {K : Mem → Option (Mem)} (hK : ∀  (μ : Mem), K μ = some μZ → Gd X 133 [] [] μ) : ∀ (n : Nat) (v2 : Int32) (μ : Mem), f_X4_markFlaw_L5 b0 b1 K n v2 μ = some μZ → Gd X 5 [(0, .ref (evA (xV X) b0)), (1, .ref (evA (xV X) b1)), (2, .int v2)] [] μ := by
  intro n
  induction n with
  | zero => intro _ _ h; rw [f_X4_markFlaw_L5] at h; cases h
  | succ n ih =>
    intro v2 μ h
    rw [f_X4_markFlaw_L5] at h
    refine so_iload_n (pc := 5) hX dX4_markFlaw_5 2 rfl ?_
    refine so_aload_n (pc := 6) hX dX4_markFlaw_6 1 rfl ?_
    refine so_gI (pc := 7) hX dX4_markFlaw_7 fl_X4_89 (ekC hL kb1) ?_
    refine so_icmp_gt (pc := 10) hX 133 dX4_markFlaw_10 (by decide) (fun hc1 => ?_) (fun hc1 => ?_)
    · have h := ip hc1 h
      refine so_sub (pc := 133) (lv' := []) [] rfl ?_
      exact hK _ h
    · have h := iq hc1 h
      refine so_iload_n (pc := 13) hX dX4_markFlaw_13 2 rfl ?_
      refine so_aload_n (pc := 14) hX dX4_markFlaw_14 0 rfl ?_
      refine so_gI (pc := 15) hX dX4_markFlaw_15 fl_X4_33 (ekC hL kb0) ?_
      refine so_icmp_ge (pc := 18) hX 133 dX4_markFlaw_18 (by decide) (fun hc2 => ?_) (fun hc2 => ?_)
      · have h := ip hc2 h
        refine so_sub (pc := 133) (lv' := []) [] rfl ?_
        exact hK _ h
      · have h := iq hc2 h
        refine so_iconst (v := (0 : Int32)) (pc := 21) hX dX4_markFlaw_21 (by decide) ?_
        refine so_aload_n (pc := 22) hX dX4_markFlaw_22 1 rfl ?_
        refine so_iload_n (pc := 23) hX dX4_markFlaw_23 2 rfl ?_
        obtain ⟨r4, μ3, hr, h⟩ := obd h
        refine so_callV (As := [.int v2]) (rest := [.int (0 : Int32)]) (pc := 24) hX dX4_markFlaw_24 (c_X3_leftIn hL kb1 hr) mw_X3_leftIn mv_X3_leftIn ml_X4_92 (ekC hL kb1) (by decide) rfl rfl rfl rfl (by omega) (by decide) (Nat.le_of_ble_eq_true rfl) ?_
        refine so_mmax (pc := 27) hX dX4_markFlaw_27 ml_X4_64 (by omega) (Nat.le_of_ble_eq_true rfl) ?_
        refine so_istore_n (pc := 30) hX dX4_markFlaw_30 [(3, .int (iMax (0 : Int32) r4)), (0, .ref (evA (xV X) b0)), (1, .ref (evA (xV X) b1)), (2, .int v2)] (by rw [hn]; decide) rfl ?_
        refine so_aload_n (pc := 31) hX dX4_markFlaw_31 1 rfl ?_
        refine so_iload_n (pc := 32) hX dX4_markFlaw_32 3 rfl ?_
        obtain ⟨r6, μ5, hr, h⟩ := obd h
        refine so_callV (As := [.int v2]) (rest := []) (pc := 33) hX dX4_markFlaw_33 (c_X4_widthOf hL kb0 hr) mw_X4_widthOf mv_X4_widthOf ml_X4_70 (ekC hL kb0) (by decide) rfl rfl rfl rfl (by omega) (by decide) (Nat.le_of_ble_eq_true rfl) ?_
        refine so_aload_n (pc := 36) hX dX4_markFlaw_36 2 rfl ?_
        refine so_iload_n (pc := 37) hX dX4_markFlaw_37 3 rfl ?_
        obtain ⟨r8, μ7, hr, h⟩ := obd h
        refine so_callV (As := [.int v2]) (rest := [.int r6]) (pc := 38) hX dX4_markFlaw_38 (c_X3_leftIn hL kb1 hr) mw_X3_leftIn mv_X3_leftIn ml_X4_92 (ekC hL kb1) (by decide) rfl rfl rfl rfl (by omega) (by decide) (Nat.le_of_ble_eq_true rfl) ?_
        refine so_aload_n (pc := 41) hX dX4_markFlaw_41 2 rfl ?_
        refine so_gI (pc := 42) hX dX4_markFlaw_42 fl_X4_95 (ekC hL kb1) ?_
        refine so_iadd (pc := 45) hX dX4_markFlaw_45 ?_
        refine so_mmin (pc := 46) hX dX4_markFlaw_46 ml_X4_96 (by omega) (Nat.le_of_ble_eq_true rfl) ?_
        refine so_istore (pc := 49) hX dX4_markFlaw_49 [(4, .int (iMin r6 (r8 + (μ7.1 b1 4)))), (3, .int (iMax (0 : Int32) r4)), (0, .ref (evA (xV X) b0)), (1, .ref (evA (xV X) b1)), (2, .int v2)] (by rw [hn]; decide) rfl ?_
        refine so_iconst (v := (0 : Int32)) (pc := 51) hX dX4_markFlaw_51 (by decide) ?_
        refine so_aload_n (pc := 52) hX dX4_markFlaw_52 3 rfl ?_
        refine so_iload_n (pc := 53) hX dX4_markFlaw_53 4 rfl ?_
        obtain ⟨r10, μ9, hr, h⟩ := obd h
        refine so_callV (As := [.int v2]) (rest := [.int (0 : Int32)]) (pc := 54) hX dX4_markFlaw_54 (c_X3_topIn hL kb1 hr) mw_X3_topIn mv_X3_topIn ml_X4_99 (ekC hL kb1) (by decide) rfl rfl rfl rfl (by omega) (by decide) (Nat.le_of_ble_eq_true rfl) ?_
        refine so_mmax (pc := 57) hX dX4_markFlaw_57 ml_X4_64 (by omega) (Nat.le_of_ble_eq_true rfl) ?_
        refine so_istore (pc := 60) hX dX4_markFlaw_60 [(5, .int (iMax (0 : Int32) r10)), (4, .int (iMin r6 (r8 + (μ7.1 b1 4)))), (3, .int (iMax (0 : Int32) r4)), (0, .ref (evA (xV X) b0)), (1, .ref (evA (xV X) b1)), (2, .int v2)] (by rw [hn]; decide) rfl ?_
        refine so_aload_n (pc := 62) hX dX4_markFlaw_62 3 rfl ?_
        refine so_gI (pc := 63) hX dX4_markFlaw_63 fl_X4_37 (ekC hL kb0) ?_
        refine so_aload_n (pc := 66) hX dX4_markFlaw_66 4 rfl ?_
        refine so_iload_n (pc := 67) hX dX4_markFlaw_67 5 rfl ?_
        obtain ⟨r12, μ11, hr, h⟩ := obd h
        refine so_callV (As := [.int v2]) (rest := [.int (μ9.1 b0 2)]) (pc := 68) hX dX4_markFlaw_68 (c_X3_topIn hL kb1 hr) mw_X3_topIn mv_X3_topIn ml_X4_99 (ekC hL kb1) (by decide) rfl rfl rfl rfl (by omega) (by decide) (Nat.le_of_ble_eq_true rfl) ?_
        refine so_aload_n (pc := 71) hX dX4_markFlaw_71 4 rfl ?_
        refine so_gI (pc := 72) hX dX4_markFlaw_72 fl_X4_102 (ekC hL kb1) ?_
        refine so_iadd (pc := 75) hX dX4_markFlaw_75 ?_
        refine so_mmin (pc := 76) hX dX4_markFlaw_76 ml_X4_96 (by omega) (Nat.le_of_ble_eq_true rfl) ?_
        refine so_istore (pc := 79) hX dX4_markFlaw_79 [(6, .int (iMin (μ9.1 b0 2) (r12 + (μ11.1 b1 5)))), (5, .int (iMax (0 : Int32) r10)), (4, .int (iMin r6 (r8 + (μ7.1 b1 4)))), (3, .int (iMax (0 : Int32) r4)), (0, .ref (evA (xV X) b0)), (1, .ref (evA (xV X) b1)), (2, .int v2)] (by rw [hn]; decide) rfl ?_
        refine so_iload (pc := 81) hX dX4_markFlaw_81 1 rfl ?_
        refine so_istore (pc := 83) hX dX4_markFlaw_83 [(7, .int (iMax (0 : Int32) r10)), (6, .int (iMin (μ9.1 b0 2) (r12 + (μ11.1 b1 5)))), (5, .int (iMax (0 : Int32) r10)), (4, .int (iMin r6 (r8 + (μ7.1 b1 4)))), (3, .int (iMax (0 : Int32) r4)), (0, .ref (evA (xV X) b0)), (1, .ref (evA (xV X) b1)), (2, .int v2)] (by rw [hn]; decide) rfl ?_
        refine so_sub (pc := 85) (lv' := [(0, .ref (evA (xV X) b0)), (1, .ref (evA (xV X) b1)), (2, .int v2), (3, .int (iMax (0 : Int32) r4)), (4, .int (iMin r6 (r8 + (μ7.1 b1 4)))), (6, .int (iMin (μ9.1 b0 2) (r12 + (μ11.1 b1 5)))), (7, .int (iMax (0 : Int32) r10))]) [5, 6, 7, 4, 3, 1, 0] rfl ?_
        refine g_X4_markFlaw_L85 hX hL hn hR kb0 kb1 (fun μ19 h => ?_) FU _ _ h
        refine so_iinc (pc := 127) hX dX4_markFlaw_127 2 (1 : Int32) [(2, .int (v2 + (1 : Int32))), (0, .ref (evA (xV X) b0)), (1, .ref (evA (xV X) b1))] rfl (by decide) (by rw [hn]; decide) rfl ?_
        refine so_goto (pc := 130) hX 5 dX4_markFlaw_130 (by decide) ?_
        refine so_sub (pc := 5) (lv' := [(0, .ref (evA (xV X) b0)), (1, .ref (evA (xV X) b1)), (2, .int (v2 + (1 : Int32)))]) [1, 2, 0] rfl ?_
        exact ih _ _ h
set_option maxHeartbeats 4000000 in
set_option maxRecDepth 100000 in
theorem c_X4_markFlaw {l : Launch} {V : Ev} (hL : V.2.2.2 = lyC) {a0 : Nat} {a1 : Nat} (ka0 : kdC a0 = 4) (ka1 : kdC a1 = 3) {μ : Mem} {μZ : Mem} (h : f_X4_markFlaw a0 a1 μ = some μZ) : CT l V yX4_markFlaw cX4_markFlaw 8 none 2 [.ref (evA V a0), .ref (evA V a1)] μ μZ none := by
  refine so_met [(0, .ref (evA V a0)), (1, .ref (evA V a1))] (by decide) (Nat.le_of_ble_eq_true rfl) (evCn hL) rfl ?_
  intro X hl hV hn hX hR
  subst hl hV
  unfold f_X4_markFlaw at h
  refine so_aload_n (pc := 0) hX dX4_markFlaw_0 1 rfl ?_
  refine so_gI (pc := 1) hX dX4_markFlaw_1 fl_X4_82 (ekC hL ka1) ?_
  refine so_istore_n (pc := 4) hX dX4_markFlaw_4 [(2, .int (μ.1 a1 0)), (0, .ref (evA (xV X) a0)), (1, .ref (evA (xV X) a1))] (by rw [hn]; decide) rfl ?_
  refine so_sub (pc := 5) (lv' := [(0, .ref (evA (xV X) a0)), (1, .ref (evA (xV X) a1)), (2, .int (μ.1 a1 0))]) [1, 2, 0] rfl ?_
  refine g_X4_markFlaw_L5 hX hL hn hR ka0 ka1 (fun μ20 h => ?_) FU _ _ h
  exact so_vretH (pc := 133) hX hR h dX4_markFlaw_133
set_option maxHeartbeats 4000000 in
set_option maxRecDepth 100000 in
theorem c_X4_addFlaw {l : Launch} {V : Ev} (hL : V.2.2.2 = lyC) {a0 : Nat} {v1 : Int32} {v2 : Int32} {v3 : Int32} {v4 : Int32} {v5 : Int32} (ka0 : kdC a0 = 4) {μ : Mem} {rZ : Int32} {μZ : Mem} (h : f_X4_addFlaw a0 v1 v2 v3 v4 v5 μ = some (rZ, μZ)) : CT l V yX4_addFlaw cX4_addFlaw 6 (some .int) 3 [.ref (evA V a0), .int v1, .int v2, .int v3, .int v4, .int v5] μ μZ (some (.int rZ)) := by
  refine so_met [(0, .ref (evA V a0)), (1, .int v1), (2, .int v2), (3, .int v3), (4, .int v4), (5, .int v5)] (by decide) (Nat.le_of_ble_eq_true rfl) (evCn hL) rfl ?_
  intro X hl hV hn hX hR
  subst hl hV
  unfold f_X4_addFlaw at h
  refine so_aload_n (pc := 0) hX dX4_addFlaw_0 0 rfl ?_
  refine so_gI (pc := 1) hX dX4_addFlaw_1 fl_X4_52 (ekC hL ka0) ?_
  refine so_bipush (v := (10 : Int32)) (pc := 4) hX dX4_addFlaw_4 (by decide) ?_
  refine so_icmp_lt (pc := 6) hX 11 dX4_addFlaw_6 (by decide) (fun hc1 => ?_) (fun hc1 => ?_)
  · have h := ip hc1 h
    refine so_aload_n (pc := 11) hX dX4_addFlaw_11 0 rfl ?_
    refine so_gR (pc := 12) hX (a0 + 2) dX4_addFlaw_12 fl_X4_17 (ekC hL ka0) (erC hL (rq_4_9 ka0)) ?_
    refine so_aload_n (pc := 15) hX dX4_addFlaw_15 0 rfl ?_
    refine so_gI (pc := 16) hX dX4_addFlaw_16 fl_X4_52 (ekC hL ka0) ?_
    obtain ⟨j2, hj3, h⟩ := ob h
    refine so_aald (t0 := 3) (b := (a0 + 5 + j2)) (pc := 19) hX dX4_addFlaw_19 (ekC hL (kq_4_9 ka0)) (by decide) (by decide) (elC hL (nq_4_9 ka0)) rfl hj3 (erC hL (rE14 ka0)) ?_
    refine so_iload_n (pc := 20) hX dX4_addFlaw_20 1 rfl ?_
    refine so_iload_n (pc := 21) hX dX4_addFlaw_21 2 rfl ?_
    refine so_iload_n (pc := 22) hX dX4_addFlaw_22 3 rfl ?_
    refine so_iload (pc := 23) hX dX4_addFlaw_23 4 rfl ?_
    refine so_iload (pc := 25) hX dX4_addFlaw_25 5 rfl ?_
    obtain ⟨μ4, hr, h⟩ := ob h
    refine so_callV (As := [.int v1, .int v2, .int v3, .int v4, .int v5]) (rest := []) (pc := 27) hX dX4_addFlaw_27 (c_X3_begin hL (kE14 ka0 (rR_lt hj3)) hr) mw_X3_begin mv_X3_begin ml_X4_74 (ekC hL (kE14 ka0 (rR_lt hj3))) (by decide) rfl rfl rfl rfl (by omega) (by decide) (Nat.le_of_ble_eq_true rfl) ?_
    refine so_aload_n (pc := 30) hX dX4_addFlaw_30 0 rfl ?_
    refine so_aload_n (pc := 31) hX dX4_addFlaw_31 0 rfl ?_
    refine so_gR (pc := 32) hX (a0 + 2) dX4_addFlaw_32 fl_X4_17 (ekC hL ka0) (erC hL (rq_4_9 ka0)) ?_
    refine so_aload_n (pc := 35) hX dX4_addFlaw_35 0 rfl ?_
    refine so_gI (pc := 36) hX dX4_addFlaw_36 fl_X4_52 (ekC hL ka0) ?_
    obtain ⟨j5, hj6, h⟩ := ob h
    refine so_aald (t0 := 3) (b := (a0 + 5 + j5)) (pc := 39) hX dX4_addFlaw_39 (ekC hL (kq_4_9 ka0)) (by decide) (by decide) (elC hL (nq_4_9 ka0)) rfl hj6 (erC hL (rE14 ka0)) ?_
    obtain ⟨μ7, hr, h⟩ := ob h
    refine so_callV (As := [.ref (evA (xV X) (a0 + 5 + j5))]) (rest := []) (pc := 40) hX dX4_addFlaw_40 (c_X4_markFlaw hL ka0 (kE14 ka0 (rR_lt hj6)) hr) mw_X4_markFlaw mv_X4_markFlaw ml_X4_78 (ekC hL ka0) (by decide) rfl rfl rfl rfl (by omega) (by decide) (Nat.le_of_ble_eq_true rfl) ?_
    refine so_aload_n (pc := 43) hX dX4_addFlaw_43 0 rfl ?_
    refine so_dup (pc := 44) hX dX4_addFlaw_44 rfl ?_
    refine so_gI (pc := 45) hX dX4_addFlaw_45 fl_X4_52 (ekC hL ka0) ?_
    refine so_iconst (v := (1 : Int32)) (pc := 48) hX dX4_addFlaw_48 (by decide) ?_
    refine so_iadd (pc := 49) hX dX4_addFlaw_49 ?_
    refine so_pI (pc := 50) hX dX4_addFlaw_50 fl_X4_52 fw_4_8 (ekC hL ka0) rfl rfl ?_
    refine so_aload_n (pc := 53) hX dX4_addFlaw_53 0 rfl ?_
    refine so_gI (pc := 54) hX dX4_addFlaw_54 fl_X4_52 (ekC hL ka0) ?_
    refine so_iconst (v := (1 : Int32)) (pc := 57) hX dX4_addFlaw_57 (by decide) ?_
    refine so_isub (pc := 58) hX dX4_addFlaw_58 ?_
    exact so_iretH (pc := 59) hX hR h rfl dX4_addFlaw_59
  · have h := iq hc1 h
    refine so_iconst (v := (-1 : Int32)) (pc := 9) hX dX4_addFlaw_9 (by decide) ?_
    exact so_iretH (pc := 10) hX hR h rfl dX4_addFlaw_10
set_option maxHeartbeats 4000000 in
set_option maxRecDepth 100000 in
theorem g_X4_driftLatest_L55 {X : Cx} (hX : Fx X cX4_driftLatest RX4 3) (hL : (xV X).2.2.2 = lyC) (hn : xn X = 5) {rZ : Int32} {μZ : Mem} (hR : Rt X (some .boolean) μZ (some (.int rZ))) {b0 : Nat} (kb0 : kdC b0 = 4) {K : Mem → Option (Int32 × Mem)} (hK : ∀  (μ : Mem), K μ = some (rZ, μZ) → Gd X 81 [] [] μ) : ∀ (n : Nat) (v4 : Int32) (μ : Mem), f_X4_driftLatest_L55 b0 K n v4 μ = some (rZ, μZ) → Gd X 55 [(0, .ref (evA (xV X) b0)), (4, .int v4)] [] μ := by
  intro n
  induction n with
  | zero => intro _ _ h; rw [f_X4_driftLatest_L55] at h; cases h
  | succ n ih =>
    intro v4 μ h
    rw [f_X4_driftLatest_L55] at h
    refine so_iload (pc := 55) hX dX4_driftLatest_55 1 rfl ?_
    refine so_aload_n (pc := 57) hX dX4_driftLatest_57 0 rfl ?_
    refine so_gI (pc := 58) hX dX4_driftLatest_58 fl_X4_52 (ekC hL kb0) ?_
    refine so_icmp_ge (pc := 61) hX 81 dX4_driftLatest_61 (by decide) (fun hc9 => ?_) (fun hc9 => ?_)
    · have h := ip hc9 h
      refine so_sub (pc := 81) (lv' := []) [] rfl ?_
      exact hK _ h
    · have h := iq hc9 h
      refine so_aload_n (pc := 64) hX dX4_driftLatest_64 0 rfl ?_
      refine so_aload_n (pc := 65) hX dX4_driftLatest_65 0 rfl ?_
      refine so_gR (pc := 66) hX (b0 + 2) dX4_driftLatest_66 fl_X4_17 (ekC hL kb0) (erC hL (rq_4_9 kb0)) ?_
      refine so_iload (pc := 69) hX dX4_driftLatest_69 1 rfl ?_
      obtain ⟨j10, hj11, h⟩ := ob h
      refine so_aald (t0 := 3) (b := (b0 + 5 + j10)) (pc := 71) hX dX4_driftLatest_71 (ekC hL (kq_4_9 kb0)) (by decide) (by decide) (elC hL (nq_4_9 kb0)) rfl hj11 (erC hL (rE14 kb0)) ?_
      obtain ⟨μ12, hr, h⟩ := ob h
      refine so_callV (As := [.ref (evA (xV X) (b0 + 5 + j10))]) (rest := []) (pc := 72) hX dX4_driftLatest_72 (c_X4_markFlaw hL kb0 (kE14 kb0 (rR_lt hj11)) hr) mw_X4_markFlaw mv_X4_markFlaw ml_X4_78 (ekC hL kb0) (by decide) rfl rfl rfl rfl (by omega) (by decide) (Nat.le_of_ble_eq_true rfl) ?_
      refine so_iinc (pc := 75) hX dX4_driftLatest_75 1 (1 : Int32) [(4, .int (v4 + (1 : Int32))), (0, .ref (evA (xV X) b0))] rfl (by decide) (by rw [hn]; decide) rfl ?_
      refine so_goto (pc := 78) hX 55 dX4_driftLatest_78 (by decide) ?_
      refine so_sub (pc := 55) (lv' := [(0, .ref (evA (xV X) b0)), (4, .int (v4 + (1 : Int32)))]) [1, 0] rfl ?_
      exact ih _ _ h
set_option maxHeartbeats 4000000 in
set_option maxRecDepth 100000 in
theorem c_X4_driftLatest {l : Launch} {V : Ev} (hL : V.2.2.2 = lyC) {a0 : Nat} {v1 : Int32} {v2 : Int32} {v3 : Int32} (ka0 : kdC a0 = 4) {μ : Mem} {rZ : Int32} {μZ : Mem} (h : f_X4_driftLatest a0 v1 v2 v3 μ = some (rZ, μZ)) : CT l V yX4_driftLatest cX4_driftLatest 5 (some .boolean) 3 [.ref (evA V a0), .int v1, .int v2, .int v3] μ μZ (some (.int rZ)) := by
  refine so_met [(0, .ref (evA V a0)), (1, .int v1), (2, .int v2), (3, .int v3)] (by decide) (Nat.le_of_ble_eq_true rfl) (evCn hL) rfl ?_
  intro X hl hV hn hX hR
  subst hl hV
  unfold f_X4_driftLatest at h
  refine so_aload_n (pc := 0) hX dX4_driftLatest_0 0 rfl ?_
  refine so_gI (pc := 1) hX dX4_driftLatest_1 fl_X4_52 (ekC hL ka0) ?_
  refine so_if_eq (pc := 4) hX 25 dX4_driftLatest_4 (by decide) (fun hc1 => ?_) (fun hc1 => ?_)
  · have h := ip hc1 h
    refine so_iconst (v := (0 : Int32)) (pc := 25) hX dX4_driftLatest_25 (by decide) ?_
    exact so_iretH (pc := 26) hX hR h (by decide) dX4_driftLatest_26
  · have h := iq hc1 h
    refine so_iload_n (pc := 7) hX dX4_driftLatest_7 1 rfl ?_
    refine so_aload_n (pc := 8) hX dX4_driftLatest_8 0 rfl ?_
    refine so_gR (pc := 9) hX (a0 + 2) dX4_driftLatest_9 fl_X4_17 (ekC hL ka0) (erC hL (rq_4_9 ka0)) ?_
    refine so_aload_n (pc := 12) hX dX4_driftLatest_12 0 rfl ?_
    refine so_gI (pc := 13) hX dX4_driftLatest_13 fl_X4_52 (ekC hL ka0) ?_
    refine so_iconst (v := (1 : Int32)) (pc := 16) hX dX4_driftLatest_16 (by decide) ?_
    refine so_isub (pc := 17) hX dX4_driftLatest_17 ?_
    obtain ⟨j2, hj3, h⟩ := ob h
    refine so_aald (t0 := 3) (b := (a0 + 5 + j2)) (pc := 18) hX dX4_driftLatest_18 (ekC hL (kq_4_9 ka0)) (by decide) (by decide) (elC hL (nq_4_9 ka0)) rfl hj3 (erC hL (rE14 ka0)) ?_
    refine so_gI (pc := 19) hX dX4_driftLatest_19 fl_X4_82 (ekC hL (kE14 ka0 (rR_lt hj3))) ?_
    refine so_icmp_ge (pc := 22) hX 27 dX4_driftLatest_22 (by decide) (fun hc4 => ?_) (fun hc4 => ?_)
    · have h := ip hc4 h
      refine so_aload_n (pc := 27) hX dX4_driftLatest_27 0 rfl ?_
      refine so_gR (pc := 28) hX (a0 + 2) dX4_driftLatest_28 fl_X4_17 (ekC hL ka0) (erC hL (rq_4_9 ka0)) ?_
      refine so_aload_n (pc := 31) hX dX4_driftLatest_31 0 rfl ?_
      refine so_gI (pc := 32) hX dX4_driftLatest_32 fl_X4_52 (ekC hL ka0) ?_
      refine so_iconst (v := (1 : Int32)) (pc := 35) hX dX4_driftLatest_35 (by decide) ?_
      refine so_isub (pc := 36) hX dX4_driftLatest_36 ?_
      obtain ⟨j5, hj6, h⟩ := ob h
      refine so_aald (t0 := 3) (b := (a0 + 5 + j5)) (pc := 37) hX dX4_driftLatest_37 (ekC hL (kq_4_9 ka0)) (by decide) (by decide) (elC hL (nq_4_9 ka0)) rfl hj6 (erC hL (rE14 ka0)) ?_
      refine so_iload_n (pc := 38) hX dX4_driftLatest_38 1 rfl ?_
      refine so_iload_n (pc := 39) hX dX4_driftLatest_39 2 rfl ?_
      refine so_iload_n (pc := 40) hX dX4_driftLatest_40 3 rfl ?_
      obtain ⟨μ7, hr, h⟩ := ob h
      refine so_callV (As := [.int v1, .int v2, .int v3]) (rest := []) (pc := 41) hX dX4_driftLatest_41 (c_X3_driftTo hL (kE14 ka0 (rR_lt hj6)) hr) mw_X3_driftTo mv_X3_driftTo ml_X4_85 (ekC hL (kE14 ka0 (rR_lt hj6))) (by decide) rfl rfl rfl rfl (by omega) (by decide) (Nat.le_of_ble_eq_true rfl) ?_
      refine so_aload_n (pc := 44) hX dX4_driftLatest_44 0 rfl ?_
      refine so_gR (pc := 45) hX (a0 + 3) dX4_driftLatest_45 fl_X4_21 (ekC hL ka0) (erC hL (rq_4_10 ka0)) ?_
      refine so_lconst (v := (0 : Int64)) (pc := 48) hX dX4_driftLatest_48 (by decide) ?_
      obtain ⟨μ8, hr, h⟩ := ob h
      refine so_callS (As := [.ref (evA (xV X) (a0 + 3)), .long (0 : Int64)]) (rest := []) (pc := 49) hX dX4_driftLatest_49 (c_J7_fill_d0a16 hL (kq_4_10 ka0) (nq_4_10 ka0) hr) mw_J7_fill_d0a16 ms_J7_fill_d0a16 ml_X4_61 rfl rfl (by omega) (by decide) (Nat.le_of_ble_eq_true rfl) ?_
      refine so_iconst (v := (0 : Int32)) (pc := 52) hX dX4_driftLatest_52 (by decide) ?_
      refine so_istore (pc := 53) hX dX4_driftLatest_53 [(4, .int (0 : Int32)), (0, .ref (evA (xV X) a0)), (1, .int v1), (2, .int v2), (3, .int v3)] (by rw [hn]; decide) rfl ?_
      refine so_sub (pc := 55) (lv' := [(0, .ref (evA (xV X) a0)), (4, .int (0 : Int32))]) [1, 0] rfl ?_
      refine g_X4_driftLatest_L55 hX hL hn hR ka0 (fun μ13 h => ?_) FU _ _ h
      refine so_iconst (v := (1 : Int32)) (pc := 81) hX dX4_driftLatest_81 (by decide) ?_
      exact so_iretH (pc := 82) hX hR h (by decide) dX4_driftLatest_82
    · have h := iq hc4 h
      refine so_iconst (v := (0 : Int32)) (pc := 25) hX dX4_driftLatest_25 (by decide) ?_
      exact so_iretH (pc := 26) hX hR h (by decide) dX4_driftLatest_26
set_option maxHeartbeats 4000000 in
set_option maxRecDepth 100000 in
theorem g_X4_countFlawsIn_L4 {X : Cx} (hX : Fx X cX4_countFlawsIn RX4 2) (hL : (xV X).2.2.2 = lyC) (hn : xn X = 4) {rZ : Int32} {μZ : Mem} (hR : Rt X (some .int) μZ (some (.int rZ))) {b0 : Nat} {v1 : Int32} (kb0 : kdC b0 = 4) {K : Int32 → Mem → Option (Int32 × Mem)} (hK : ∀ (v2 : Int32) (μ : Mem), K v2 μ = some (rZ, μZ) → Gd X 50 [(2, .int v2)] [] μ) : ∀ (n : Nat) (v2 : Int32) (v3 : Int32) (μ : Mem), f_X4_countFlawsIn_L4 b0 v1 K n v2 v3 μ = some (rZ, μZ) → Gd X 4 [(0, .ref (evA (xV X) b0)), (1, .int v1), (2, .int v2), (3, .int v3)] [] μ := by
  intro n
  induction n with
  | zero => intro _ _ _ h; rw [f_X4_countFlawsIn_L4] at h; cases h
  | succ n ih =>
    intro v2 v3 μ h
    rw [f_X4_countFlawsIn_L4] at h
    refine so_iload_n (pc := 4) hX dX4_countFlawsIn_4 3 rfl ?_
    refine so_aload_n (pc := 5) hX dX4_countFlawsIn_5 0 rfl ?_
    refine so_gI (pc := 6) hX dX4_countFlawsIn_6 fl_X4_52 (ekC hL kb0) ?_
    refine so_icmp_ge (pc := 9) hX 50 dX4_countFlawsIn_9 (by decide) (fun hc1 => ?_) (fun hc1 => ?_)
    · have h := ip hc1 h
      refine so_sub (pc := 50) (lv' := [(2, .int v2)]) [2] rfl ?_
      exact hK _ _ h
    · have h := iq hc1 h
      refine so_iload_n (pc := 12) hX dX4_countFlawsIn_12 2 rfl ?_
      refine so_aload_n (pc := 13) hX dX4_countFlawsIn_13 0 rfl ?_
      refine so_gR (pc := 14) hX (b0 + 2) dX4_countFlawsIn_14 fl_X4_17 (ekC hL kb0) (erC hL (rq_4_9 kb0)) ?_
      refine so_iload_n (pc := 17) hX dX4_countFlawsIn_17 3 rfl ?_
      obtain ⟨j2, hj3, h⟩ := ob h
      refine so_aald (t0 := 3) (b := (b0 + 5 + j2)) (pc := 18) hX dX4_countFlawsIn_18 (ekC hL (kq_4_9 kb0)) (by decide) (by decide) (elC hL (nq_4_9 kb0)) rfl hj3 (erC hL (rE14 kb0)) ?_
      refine so_iload_n (pc := 19) hX dX4_countFlawsIn_19 1 rfl ?_
      refine so_iconst (v := (0 : Int32)) (pc := 20) hX dX4_countFlawsIn_20 (by decide) ?_
      refine so_iconst (v := (0 : Int32)) (pc := 21) hX dX4_countFlawsIn_21 (by decide) ?_
      refine so_aload_n (pc := 22) hX dX4_countFlawsIn_22 0 rfl ?_
      refine so_iload_n (pc := 23) hX dX4_countFlawsIn_23 1 rfl ?_
      obtain ⟨r5, μ4, hr, h⟩ := obd h
      refine so_callV (As := [.int v1]) (rest := [.int (0 : Int32), .int (0 : Int32), .int v1, .ref (evA (xV X) (b0 + 5 + j2)), .int v2]) (pc := 24) hX dX4_countFlawsIn_24 (c_X4_widthOf hL kb0 hr) mw_X4_widthOf mv_X4_widthOf ml_X4_70 (ekC hL kb0) (by decide) rfl rfl rfl rfl (by omega) (by decide) (Nat.le_of_ble_eq_true rfl) ?_
      refine so_aload_n (pc := 27) hX dX4_countFlawsIn_27 0 rfl ?_
      refine so_gI (pc := 28) hX dX4_countFlawsIn_28 fl_X4_37 (ekC hL kb0) ?_
      obtain ⟨r7, μ6, hr, h⟩ := obd h
      refine so_callV (As := [.int v1, .int (0 : Int32), .int (0 : Int32), .int r5, .int (μ4.1 b0 2)]) (rest := [.int v2]) (pc := 31) hX dX4_countFlawsIn_31 (c_X3_overlaps hL (kE14 kb0 (rR_lt hj3)) hr) mw_X3_overlaps mv_X3_overlaps ml_X4_109 (ekC hL (kE14 kb0 (rR_lt hj3))) (by decide) rfl rfl rfl rfl (by omega) (by decide) (Nat.le_of_ble_eq_true rfl) ?_
      refine so_if_eq (pc := 34) hX 41 dX4_countFlawsIn_34 (by decide) (fun hc8 => ?_) (fun hc8 => ?_)
      · have h := ip hc8 h
        refine so_iconst (v := (0 : Int32)) (pc := 41) hX dX4_countFlawsIn_41 (by decide) ?_
        refine so_iadd (pc := 42) hX dX4_countFlawsIn_42 ?_
        refine so_istore_n (pc := 43) hX dX4_countFlawsIn_43 [(2, .int (v2 + (0 : Int32))), (0, .ref (evA (xV X) b0)), (1, .int v1), (3, .int v3)] (by rw [hn]; decide) rfl ?_
        refine so_iinc (pc := 44) hX dX4_countFlawsIn_44 3 (1 : Int32) [(3, .int (v3 + (1 : Int32))), (2, .int (v2 + (0 : Int32))), (0, .ref (evA (xV X) b0)), (1, .int v1)] rfl (by decide) (by rw [hn]; decide) rfl ?_
        refine so_goto (pc := 47) hX 4 dX4_countFlawsIn_47 (by decide) ?_
        refine so_sub (pc := 4) (lv' := [(0, .ref (evA (xV X) b0)), (1, .int v1), (2, .int (v2 + (0 : Int32))), (3, .int (v3 + (1 : Int32)))]) [2, 3, 1, 0] rfl ?_
        exact ih _ _ _ h
      · have h := iq hc8 h
        refine so_iconst (v := (1 : Int32)) (pc := 37) hX dX4_countFlawsIn_37 (by decide) ?_
        refine so_goto (pc := 38) hX 42 dX4_countFlawsIn_38 (by decide) ?_
        refine so_iadd (pc := 42) hX dX4_countFlawsIn_42 ?_
        refine so_istore_n (pc := 43) hX dX4_countFlawsIn_43 [(2, .int (v2 + (1 : Int32))), (0, .ref (evA (xV X) b0)), (1, .int v1), (3, .int v3)] (by rw [hn]; decide) rfl ?_
        refine so_iinc (pc := 44) hX dX4_countFlawsIn_44 3 (1 : Int32) [(3, .int (v3 + (1 : Int32))), (2, .int (v2 + (1 : Int32))), (0, .ref (evA (xV X) b0)), (1, .int v1)] rfl (by decide) (by rw [hn]; decide) rfl ?_
        refine so_goto (pc := 47) hX 4 dX4_countFlawsIn_47 (by decide) ?_
        refine so_sub (pc := 4) (lv' := [(0, .ref (evA (xV X) b0)), (1, .int v1), (2, .int (v2 + (1 : Int32))), (3, .int (v3 + (1 : Int32)))]) [2, 3, 1, 0] rfl ?_
        exact ih _ _ _ h
set_option maxHeartbeats 4000000 in
set_option maxRecDepth 100000 in
theorem c_X4_countFlawsIn {l : Launch} {V : Ev} (hL : V.2.2.2 = lyC) {a0 : Nat} {v1 : Int32} (ka0 : kdC a0 = 4) {μ : Mem} {rZ : Int32} {μZ : Mem} (h : f_X4_countFlawsIn a0 v1 μ = some (rZ, μZ)) : CT l V yX4_countFlawsIn cX4_countFlawsIn 4 (some .int) 2 [.ref (evA V a0), .int v1] μ μZ (some (.int rZ)) := by
  refine so_met [(0, .ref (evA V a0)), (1, .int v1)] (by decide) (Nat.le_of_ble_eq_true rfl) (evCn hL) rfl ?_
  intro X hl hV hn hX hR
  subst hl hV
  unfold f_X4_countFlawsIn at h
  refine so_iconst (v := (0 : Int32)) (pc := 0) hX dX4_countFlawsIn_0 (by decide) ?_
  refine so_istore_n (pc := 1) hX dX4_countFlawsIn_1 [(2, .int (0 : Int32)), (0, .ref (evA (xV X) a0)), (1, .int v1)] (by rw [hn]; decide) rfl ?_
  refine so_iconst (v := (0 : Int32)) (pc := 2) hX dX4_countFlawsIn_2 (by decide) ?_
  refine so_istore_n (pc := 3) hX dX4_countFlawsIn_3 [(3, .int (0 : Int32)), (2, .int (0 : Int32)), (0, .ref (evA (xV X) a0)), (1, .int v1)] (by rw [hn]; decide) rfl ?_
  refine so_sub (pc := 4) (lv' := [(0, .ref (evA (xV X) a0)), (1, .int v1), (2, .int (0 : Int32)), (3, .int (0 : Int32))]) [2, 3, 1, 0] rfl ?_
  refine g_X4_countFlawsIn_L4 hX hL hn hR ka0 (fun w9 μ10 h => ?_) FU _ _ _ h
  refine so_iload_n (pc := 50) hX dX4_countFlawsIn_50 0 rfl ?_
  exact so_iretH (pc := 51) hX hR h rfl dX4_countFlawsIn_51
set_option maxHeartbeats 4000000 in
set_option maxRecDepth 100000 in
theorem g_X4_leastFlawIn_L3 {X : Cx} (hX : Fx X cX4_leastFlawIn RX4 2) (hL : (xV X).2.2.2 = lyC) (hn : xn X = 7) {rZ : Int32} {μZ : Mem} (hR : Rt X (some .int) μZ (some (.int rZ))) {b0 : Nat} {v1 : Int32} {v2 : Int32} {v3 : Int32} {v4 : Int32} {v5 : Int32} (kb0 : kdC b0 = 4) {K : Mem → Option (Int32 × Mem)} (hK : ∀  (μ : Mem), K μ = some (rZ, μZ) → Gd X 41 [] [] μ) : ∀ (n : Nat) (v6 : Int32) (μ : Mem), f_X4_leastFlawIn_L3 b0 v1 v2 v3 v4 v5 K n v6 μ = some (rZ, μZ) → Gd X 3 [(0, .ref (evA (xV X) b0)), (1, .int v1), (2, .int v2), (3, .int v3), (4, .int v4), (5, .int v5), (6, .int v6)] [] μ := by
  intro n
  induction n with
  | zero => intro _ _ h; rw [f_X4_leastFlawIn_L3] at h; cases h
  | succ n ih =>
    intro v6 μ h
    rw [f_X4_leastFlawIn_L3] at h
    refine so_iload (pc := 3) hX dX4_leastFlawIn_3 6 rfl ?_
    refine so_aload_n (pc := 5) hX dX4_leastFlawIn_5 0 rfl ?_
    refine so_gI (pc := 6) hX dX4_leastFlawIn_6 fl_X4_52 (ekC hL kb0) ?_
    refine so_icmp_ge (pc := 9) hX 41 dX4_leastFlawIn_9 (by decide) (fun hc1 => ?_) (fun hc1 => ?_)
    · have h := ip hc1 h
      refine so_sub (pc := 41) (lv' := []) [] rfl ?_
      exact hK _ h
    · have h := iq hc1 h
      refine so_aload_n (pc := 12) hX dX4_leastFlawIn_12 0 rfl ?_
      refine so_gR (pc := 13) hX (b0 + 2) dX4_leastFlawIn_13 fl_X4_17 (ekC hL kb0) (erC hL (rq_4_9 kb0)) ?_
      refine so_iload (pc := 16) hX dX4_leastFlawIn_16 6 rfl ?_
      obtain ⟨j2, hj3, h⟩ := ob h
      refine so_aald (t0 := 3) (b := (b0 + 5 + j2)) (pc := 18) hX dX4_leastFlawIn_18 (ekC hL (kq_4_9 kb0)) (by decide) (by decide) (elC hL (nq_4_9 kb0)) rfl hj3 (erC hL (rE14 kb0)) ?_
      refine so_iload_n (pc := 19) hX dX4_leastFlawIn_19 1 rfl ?_
      refine so_iload_n (pc := 20) hX dX4_leastFlawIn_20 2 rfl ?_
      refine so_iload_n (pc := 21) hX dX4_leastFlawIn_21 3 rfl ?_
      refine so_iload (pc := 22) hX dX4_leastFlawIn_22 4 rfl ?_
      refine so_iload (pc := 24) hX dX4_leastFlawIn_24 5 rfl ?_
      obtain ⟨r5, μ4, hr, h⟩ := obd h
      refine so_callV (As := [.int v1, .int v2, .int v3, .int v4, .int v5]) (rest := []) (pc := 26) hX dX4_leastFlawIn_26 (c_X3_overlaps hL (kE14 kb0 (rR_lt hj3)) hr) mw_X3_overlaps mv_X3_overlaps ml_X4_109 (ekC hL (kE14 kb0 (rR_lt hj3))) (by decide) rfl rfl rfl rfl (by omega) (by decide) (Nat.le_of_ble_eq_true rfl) ?_
      refine so_if_eq (pc := 29) hX 35 dX4_leastFlawIn_29 (by decide) (fun hc6 => ?_) (fun hc6 => ?_)
      · have h := ip hc6 h
        refine so_iinc (pc := 35) hX dX4_leastFlawIn_35 6 (1 : Int32) [(6, .int (v6 + (1 : Int32))), (0, .ref (evA (xV X) b0)), (1, .int v1), (2, .int v2), (3, .int v3), (4, .int v4), (5, .int v5)] rfl (by decide) (by rw [hn]; decide) rfl ?_
        refine so_goto (pc := 38) hX 3 dX4_leastFlawIn_38 (by decide) ?_
        refine so_sub (pc := 3) (lv' := [(0, .ref (evA (xV X) b0)), (1, .int v1), (2, .int v2), (3, .int v3), (4, .int v4), (5, .int v5), (6, .int (v6 + (1 : Int32)))]) [1, 2, 3, 4, 5, 6, 0] rfl ?_
        exact ih _ _ h
      · have h := iq hc6 h
        refine so_iload (pc := 32) hX dX4_leastFlawIn_32 6 rfl ?_
        exact so_iretH (pc := 34) hX hR h rfl dX4_leastFlawIn_34
set_option maxHeartbeats 4000000 in
set_option maxRecDepth 100000 in
theorem c_X4_leastFlawIn {l : Launch} {V : Ev} (hL : V.2.2.2 = lyC) {a0 : Nat} {v1 : Int32} {v2 : Int32} {v3 : Int32} {v4 : Int32} {v5 : Int32} (ka0 : kdC a0 = 4) {μ : Mem} {rZ : Int32} {μZ : Mem} (h : f_X4_leastFlawIn a0 v1 v2 v3 v4 v5 μ = some (rZ, μZ)) : CT l V yX4_leastFlawIn cX4_leastFlawIn 7 (some .int) 2 [.ref (evA V a0), .int v1, .int v2, .int v3, .int v4, .int v5] μ μZ (some (.int rZ)) := by
  refine so_met [(0, .ref (evA V a0)), (1, .int v1), (2, .int v2), (3, .int v3), (4, .int v4), (5, .int v5)] (by decide) (Nat.le_of_ble_eq_true rfl) (evCn hL) rfl ?_
  intro X hl hV hn hX hR
  subst hl hV
  unfold f_X4_leastFlawIn at h
  refine so_iconst (v := (0 : Int32)) (pc := 0) hX dX4_leastFlawIn_0 (by decide) ?_
  refine so_istore (pc := 1) hX dX4_leastFlawIn_1 [(6, .int (0 : Int32)), (0, .ref (evA (xV X) a0)), (1, .int v1), (2, .int v2), (3, .int v3), (4, .int v4), (5, .int v5)] (by rw [hn]; decide) rfl ?_
  refine so_sub (pc := 3) (lv' := [(0, .ref (evA (xV X) a0)), (1, .int v1), (2, .int v2), (3, .int v3), (4, .int v4), (5, .int v5), (6, .int (0 : Int32))]) [1, 2, 3, 4, 5, 6, 0] rfl ?_
  refine g_X4_leastFlawIn_L3 hX hL hn hR ka0 (fun μ7 h => ?_) FU _ _ h
  refine so_iconst (v := (-1 : Int32)) (pc := 41) hX dX4_leastFlawIn_41 (by decide) ?_
  exact so_iretH (pc := 42) hX hR h rfl dX4_leastFlawIn_42
set_option maxHeartbeats 4000000 in
set_option maxRecDepth 100000 in
theorem g_X4_changeCuts_L85 {X : Cx} (hX : Fx X cX4_changeCuts RX4 1) (hL : (xV X).2.2.2 = lyC) (hn : xn X = 7) {μZ : Mem} (hR : Rt X none μZ none) {b0 : Nat} {b1 : Nat} {v2 : Int32} {v3 : Int32} {v4 : Int32} {v5 : Int32} (kb0 : kdC b0 = 4) (kb1 : kdC b1 = 0) {K : Mem → Option (Mem)} (hK : ∀  (μ : Mem), K μ = some μZ → Gd X 125 [(0, .ref (evA (xV X) b0)), (1, .ref (evA (xV X) b1)), (2, .int v2), (3, .int v3)] [] μ) : ∀ (n : Nat) (v6 : Int32) (μ : Mem), f_X4_changeCuts_L85 b0 b1 v2 v3 v4 v5 K n v6 μ = some μZ → Gd X 85 [(0, .ref (evA (xV X) b0)), (1, .ref (evA (xV X) b1)), (2, .int v2), (3, .int v3), (4, .int v4), (5, .int v5), (6, .int v6)] [] μ := by
  intro n
  induction n with
  | zero => intro _ _ h; rw [f_X4_changeCuts_L85] at h; cases h
  | succ n ih =>
    intro v6 μ h
    rw [f_X4_changeCuts_L85] at h
    refine so_iload (pc := 85) hX dX4_changeCuts_85 6 rfl ?_
    refine so_iload (pc := 87) hX dX4_changeCuts_87 5 rfl ?_
    refine so_icmp_ge (pc := 89) hX 125 dX4_changeCuts_89 (by decide) (fun hc12 => ?_) (fun hc12 => ?_)
    · have h := ip hc12 h
      refine so_sub (pc := 125) (lv' := [(0, .ref (evA (xV X) b0)), (1, .ref (evA (xV X) b1)), (2, .int v2), (3, .int v3)]) [0, 1, 2, 3] rfl ?_
      exact hK _ h
    · have h := iq hc12 h
      refine so_aload_n (pc := 92) hX dX4_changeCuts_92 0 rfl ?_
      refine so_gR (pc := 93) hX (b0 + 4) dX4_changeCuts_93 fl_X4_25 (ekC hL kb0) (erC hL (rq_4_11 kb0)) ?_
      refine so_iload (pc := 96) hX dX4_changeCuts_96 4 rfl ?_
      refine so_bipush (v := (60 : Int32)) (pc := 98) hX dX4_changeCuts_98 (by decide) ?_
      refine so_imul (pc := 100) hX dX4_changeCuts_100 ?_
      refine so_iload (pc := 101) hX dX4_changeCuts_101 6 rfl ?_
      refine so_iadd (pc := 103) hX dX4_changeCuts_103 ?_
      refine so_dup2 (pc := 104) hX dX4_changeCuts_104 rfl rfl ?_
      obtain ⟨e13, hr, h⟩ := ob h
      refine so_lald (pc := 105) hX dX4_changeCuts_105 (ekC hL (kq_4_11 kb0)) (elC hL (nq_4_11 kb0)) hr ?_
      refine so_aload_n (pc := 106) hX dX4_changeCuts_106 1 rfl ?_
      refine so_gI (pc := 107) hX dX4_changeCuts_107 fl_X4_135 (ekC hL kb1) ?_
      refine so_aload_n (pc := 110) hX dX4_changeCuts_110 1 rfl ?_
      refine so_gI (pc := 111) hX dX4_changeCuts_111 fl_X4_138 (ekC hL kb1) ?_
      obtain ⟨r15, μ14, hr, h⟩ := obd h
      refine so_callS (As := [.int (μ.1 b1 11), .int (μ.1 b1 3)]) (rest := [.long e13, .int ((v4 * (60 : Int32)) + v6), .ref (evA (xV X) (b0 + 4))]) (pc := 114) hX dX4_changeCuts_114 (c_X4_mask hL hr) mw_X4_mask ms_X4_mask ml_X4_105 rfl rfl (by omega) (by decide) (Nat.le_of_ble_eq_true rfl) ?_
      refine so_lxor (pc := 117) hX dX4_changeCuts_117 ?_
      obtain ⟨μ16, hr, h⟩ := ob h
      refine so_last (pc := 118) hX dX4_changeCuts_118 (ekC hL (kq_4_11 kb0)) (elC hL (nq_4_11 kb0)) hr ?_
      refine so_iinc (pc := 119) hX dX4_changeCuts_119 6 (1 : Int32) [(6, .int (v6 + (1 : Int32))), (0, .ref (evA (xV X) b0)), (1, .ref (evA (xV X) b1)), (2, .int v2), (3, .int v3), (4, .int v4), (5, .int v5)] rfl (by decide) (by rw [hn]; decide) rfl ?_
      refine so_goto (pc := 122) hX 85 dX4_changeCuts_122 (by decide) ?_
      refine so_sub (pc := 85) (lv' := [(0, .ref (evA (xV X) b0)), (1, .ref (evA (xV X) b1)), (2, .int v2), (3, .int v3), (4, .int v4), (5, .int v5), (6, .int (v6 + (1 : Int32)))]) [1, 2, 3, 4, 5, 6, 0] rfl ?_
      exact ih _ _ h
set_option maxHeartbeats 4000000 in
set_option maxRecDepth 100000 in
theorem g_X4_changeCuts_L2 {X : Cx} (hX : Fx X cX4_changeCuts RX4 1) (hL : (xV X).2.2.2 = lyC) (hn : xn X = 7) {μZ : Mem} (hR : Rt X none μZ none) {b0 : Nat} {b1 : Nat} {v2 : Int32} (kb0 : kdC b0 = 4) (kb1 : kdC b1 = 0) {K : Mem → Option (Mem)} (hK : ∀  (μ : Mem), K μ = some μZ → Gd X 131 [] [] μ) : ∀ (n : Nat) (v3 : Int32) (μ : Mem), f_X4_changeCuts_L2 b0 b1 v2 K n v3 μ = some μZ → Gd X 2 [(0, .ref (evA (xV X) b0)), (1, .ref (evA (xV X) b1)), (2, .int v2), (3, .int v3)] [] μ := by
  intro n
  induction n with
  | zero => intro _ _ h; rw [f_X4_changeCuts_L2] at h; cases h
  | succ n ih =>
    intro v3 μ h
    rw [f_X4_changeCuts_L2] at h
    refine so_iload_n (pc := 2) hX dX4_changeCuts_2 3 rfl ?_
    refine so_bipush (v := (10 : Int32)) (pc := 3) hX dX4_changeCuts_3 (by decide) ?_
    refine so_icmp_ge (pc := 5) hX 131 dX4_changeCuts_5 (by decide) (fun hc1 => ?_) (fun hc1 => ?_)
    · have h := ip hc1 h
      refine so_sub (pc := 131) (lv' := []) [] rfl ?_
      exact hK _ h
    · have h := iq hc1 h
      refine so_aload_n (pc := 8) hX dX4_changeCuts_8 1 rfl ?_
      refine so_gI (pc := 9) hX dX4_changeCuts_9 fl_X4_117 (ekC hL kb1) ?_
      refine so_iload_n (pc := 12) hX dX4_changeCuts_12 3 rfl ?_
      refine so_iadd (pc := 13) hX dX4_changeCuts_13 ?_
      refine so_istore (pc := 14) hX dX4_changeCuts_14 [(4, .int ((μ.1 b1 9) + v3)), (0, .ref (evA (xV X) b0)), (1, .ref (evA (xV X) b1)), (2, .int v2), (3, .int v3)] (by rw [hn]; decide) rfl ?_
      refine so_aload_n (pc := 16) hX dX4_changeCuts_16 2 rfl ?_
      refine so_gR (pc := 17) hX (b1 + 3) dX4_changeCuts_17 fl_X4_122 (ekC hL kb1) (erC hL (rq_0_1 kb1)) ?_
      refine so_iload_n (pc := 20) hX dX4_changeCuts_20 4 rfl ?_
      obtain ⟨e2, hr, h⟩ := ob h
      refine so_iald (pc := 21) hX dX4_changeCuts_21 (ekC hL (kq_0_1 kb1)) (elC hL (nq_0_1 kb1)) hr ?_
      refine so_if_eq (pc := 22) hX 125 dX4_changeCuts_22 (by decide) (fun hc3 => ?_) (fun hc3 => ?_)
      · have h := ip hc3 h
        refine so_iinc (pc := 125) hX dX4_changeCuts_125 4 (1 : Int32) [(3, .int (v3 + (1 : Int32))), (4, .int ((μ.1 b1 9) + v3)), (0, .ref (evA (xV X) b0)), (1, .ref (evA (xV X) b1)), (2, .int v2)] rfl (by decide) (by rw [hn]; decide) rfl ?_
        refine so_goto (pc := 128) hX 2 dX4_changeCuts_128 (by decide) ?_
        refine so_sub (pc := 2) (lv' := [(0, .ref (evA (xV X) b0)), (1, .ref (evA (xV X) b1)), (2, .int v2), (3, .int (v3 + (1 : Int32)))]) [2, 3, 4, 0] rfl ?_
        exact ih _ _ h
      · have h := iq hc3 h
        refine so_aload_n (pc := 25) hX dX4_changeCuts_25 1 rfl ?_
        refine so_iload (pc := 26) hX dX4_changeCuts_26 0 rfl ?_
        refine so_i2l (pc := 28) hX dX4_changeCuts_28 ?_
        obtain ⟨r5, μ4, hr, h⟩ := obd h
        refine so_callV (As := [.long (Int32.toInt64 ((μ.1 b1 9) + v3))]) (rest := []) (pc := 29) hX dX4_changeCuts_29 (c_X4_hasLeaf hL kb0 hr) mw_X4_hasLeaf mv_X4_hasLeaf ml_X4_125 (ekC hL kb0) (by decide) rfl rfl rfl rfl (by omega) (by decide) (Nat.le_of_ble_eq_true rfl) ?_
        refine so_if_ne (pc := 32) hX 38 dX4_changeCuts_32 (by decide) (fun hc6 => ?_) (fun hc6 => ?_)
        · have h := iq hc6 h
          refine so_aload_n (pc := 38) hX dX4_changeCuts_38 1 rfl ?_
          refine so_gR (pc := 39) hX (b0 + 1) dX4_changeCuts_39 fl_X4_9 (ekC hL kb0) (erC hL (rq_4_5 kb0)) ?_
          refine so_iload (pc := 42) hX dX4_changeCuts_42 0 rfl ?_
          refine so_dup2 (pc := 44) hX dX4_changeCuts_44 rfl rfl ?_
          obtain ⟨e7, hr, h⟩ := ob h
          refine so_iald (pc := 45) hX dX4_changeCuts_45 (ekC hL (kq_4_5 kb0)) (elC hL (nq_4_5 kb0)) hr ?_
          refine so_iload_n (pc := 46) hX dX4_changeCuts_46 3 rfl ?_
          refine so_aload_n (pc := 47) hX dX4_changeCuts_47 2 rfl ?_
          refine so_gR (pc := 48) hX (b1 + 3) dX4_changeCuts_48 fl_X4_122 (ekC hL kb1) (erC hL (rq_0_1 kb1)) ?_
          refine so_iload_n (pc := 51) hX dX4_changeCuts_51 4 rfl ?_
          obtain ⟨e8, hr, h⟩ := ob h
          refine so_iald (pc := 52) hX dX4_changeCuts_52 (ekC hL (kq_0_1 kb1)) (elC hL (nq_0_1 kb1)) hr ?_
          refine so_imul (pc := 53) hX dX4_changeCuts_53 ?_
          refine so_iadd (pc := 54) hX dX4_changeCuts_54 ?_
          obtain ⟨μ9, hr, h⟩ := ob h
          refine so_iast (pc := 55) hX dX4_changeCuts_55 (ekC hL (kq_4_5 kb0)) (elC hL (nq_4_5 kb0)) hr ?_
          refine so_aload_n (pc := 56) hX dX4_changeCuts_56 1 rfl ?_
          refine so_gI (pc := 57) hX dX4_changeCuts_57 fl_X4_37 (ekC hL kb0) ?_
          refine so_aload_n (pc := 60) hX dX4_changeCuts_60 2 rfl ?_
          refine so_gI (pc := 61) hX dX4_changeCuts_61 fl_X4_129 (ekC hL kb1) ?_
          refine so_aload_n (pc := 64) hX dX4_changeCuts_64 2 rfl ?_
          refine so_iload_n (pc := 65) hX dX4_changeCuts_65 4 rfl ?_
          obtain ⟨r11, μ10, hr, h⟩ := obd h
          refine so_callV (As := [.int v3]) (rest := [.int (μ9.1 b1 10), .int (μ9.1 b0 2)]) (pc := 66) hX dX4_changeCuts_66 (c_X0_stackHigh hL kb1 hr) mw_X0_stackHigh mv_X0_stackHigh ml_X4_132 (ekC hL kb1) (by decide) rfl rfl rfl rfl (by omega) (by decide) (Nat.le_of_ble_eq_true rfl) ?_
          refine so_iadd (pc := 69) hX dX4_changeCuts_69 ?_
          refine so_mmin (pc := 70) hX dX4_changeCuts_70 ml_X4_96 (by omega) (Nat.le_of_ble_eq_true rfl) ?_
          refine so_istore (pc := 73) hX dX4_changeCuts_73 [(5, .int (iMin (μ9.1 b0 2) ((μ9.1 b1 10) + r11))), (4, .int ((μ.1 b1 9) + v3)), (0, .ref (evA (xV X) b0)), (1, .ref (evA (xV X) b1)), (2, .int v2), (3, .int v3)] (by rw [hn]; decide) rfl ?_
          refine so_iconst (v := (0 : Int32)) (pc := 75) hX dX4_changeCuts_75 (by decide) ?_
          refine so_aload_n (pc := 76) hX dX4_changeCuts_76 3 rfl ?_
          refine so_gI (pc := 77) hX dX4_changeCuts_77 fl_X4_129 (ekC hL kb1) ?_
          refine so_mmax (pc := 80) hX dX4_changeCuts_80 ml_X4_64 (by omega) (Nat.le_of_ble_eq_true rfl) ?_
          refine so_istore (pc := 83) hX dX4_changeCuts_83 [(6, .int (iMax (0 : Int32) (μ10.1 b1 10))), (5, .int (iMin (μ9.1 b0 2) ((μ9.1 b1 10) + r11))), (4, .int ((μ.1 b1 9) + v3)), (0, .ref (evA (xV X) b0)), (1, .ref (evA (xV X) b1)), (2, .int v2), (3, .int v3)] (by rw [hn]; decide) rfl ?_
          refine so_sub (pc := 85) (lv' := [(0, .ref (evA (xV X) b0)), (1, .ref (evA (xV X) b1)), (2, .int v2), (3, .int v3), (4, .int ((μ.1 b1 9) + v3)), (5, .int (iMin (μ9.1 b0 2) ((μ9.1 b1 10) + r11))), (6, .int (iMax (0 : Int32) (μ10.1 b1 10)))]) [3, 4, 5, 6, 2, 1, 0] rfl ?_
          refine g_X4_changeCuts_L85 hX hL hn hR kb0 kb1 (fun μ17 h => ?_) FU _ _ h
          refine so_iinc (pc := 125) hX dX4_changeCuts_125 3 (1 : Int32) [(3, .int (v3 + (1 : Int32))), (0, .ref (evA (xV X) b0)), (1, .ref (evA (xV X) b1)), (2, .int v2)] rfl (by decide) (by rw [hn]; decide) rfl ?_
          refine so_goto (pc := 128) hX 2 dX4_changeCuts_128 (by decide) ?_
          refine so_sub (pc := 2) (lv' := [(0, .ref (evA (xV X) b0)), (1, .ref (evA (xV X) b1)), (2, .int v2), (3, .int (v3 + (1 : Int32)))]) [1, 2, 3, 0] rfl ?_
          exact ih _ _ h
        · have h := ip hc6 h
          refine so_goto (pc := 35) hX 125 dX4_changeCuts_35 (by decide) ?_
          refine so_iinc (pc := 125) hX dX4_changeCuts_125 4 (1 : Int32) [(3, .int (v3 + (1 : Int32))), (4, .int ((μ.1 b1 9) + v3)), (0, .ref (evA (xV X) b0)), (1, .ref (evA (xV X) b1)), (2, .int v2)] rfl (by decide) (by rw [hn]; decide) rfl ?_
          refine so_goto (pc := 128) hX 2 dX4_changeCuts_128 (by decide) ?_
          refine so_sub (pc := 2) (lv' := [(0, .ref (evA (xV X) b0)), (1, .ref (evA (xV X) b1)), (2, .int v2), (3, .int (v3 + (1 : Int32)))]) [2, 3, 4, 0] rfl ?_
          exact ih _ _ h
set_option maxHeartbeats 4000000 in
set_option maxRecDepth 100000 in
theorem c_X4_changeCuts {l : Launch} {V : Ev} (hL : V.2.2.2 = lyC) {a0 : Nat} {a1 : Nat} {v2 : Int32} (ka0 : kdC a0 = 4) (ka1 : kdC a1 = 0) {μ : Mem} {μZ : Mem} (h : f_X4_changeCuts a0 a1 v2 μ = some μZ) : CT l V yX4_changeCuts cX4_changeCuts 7 none 1 [.ref (evA V a0), .ref (evA V a1), .int v2] μ μZ none := by
  refine so_met [(0, .ref (evA V a0)), (1, .ref (evA V a1)), (2, .int v2)] (by decide) (Nat.le_of_ble_eq_true rfl) (evCn hL) rfl ?_
  intro X hl hV hn hX hR
  subst hl hV
  unfold f_X4_changeCuts at h
  refine so_iconst (v := (0 : Int32)) (pc := 0) hX dX4_changeCuts_0 (by decide) ?_
  refine so_istore_n (pc := 1) hX dX4_changeCuts_1 [(3, .int (0 : Int32)), (0, .ref (evA (xV X) a0)), (1, .ref (evA (xV X) a1)), (2, .int v2)] (by rw [hn]; decide) rfl ?_
  refine so_sub (pc := 2) (lv' := [(0, .ref (evA (xV X) a0)), (1, .ref (evA (xV X) a1)), (2, .int v2), (3, .int (0 : Int32))]) [1, 2, 3, 0] rfl ?_
  refine g_X4_changeCuts_L2 hX hL hn hR ka0 ka1 (fun μ18 h => ?_) FU _ _ h
  exact so_vretH (pc := 131) hX hR h dX4_changeCuts_131
set_option maxHeartbeats 4000000 in
set_option maxRecDepth 100000 in
theorem c_X4_addCuts {l : Launch} {V : Ev} (hL : V.2.2.2 = lyC) {a0 : Nat} {a1 : Nat} (ka0 : kdC a0 = 4) (ka1 : kdC a1 = 0) {μ : Mem} {μZ : Mem} (h : f_X4_addCuts a0 a1 μ = some μZ) : CT l V yX4_addCuts cX4_addCuts 2 none 2 [.ref (evA V a0), .ref (evA V a1)] μ μZ none := by
  refine so_met [(0, .ref (evA V a0)), (1, .ref (evA V a1))] (by decide) (Nat.le_of_ble_eq_true rfl) (evCn hL) rfl ?_
  intro X hl hV hn hX hR
  subst hl hV
  unfold f_X4_addCuts at h
  refine so_aload_n (pc := 0) hX dX4_addCuts_0 0 rfl ?_
  refine so_aload_n (pc := 1) hX dX4_addCuts_1 1 rfl ?_
  refine so_iconst (v := (1 : Int32)) (pc := 2) hX dX4_addCuts_2 (by decide) ?_
  obtain ⟨μ1, hr, h⟩ := ob h
  refine so_callV (As := [.ref (evA (xV X) a1), .int (1 : Int32)]) (rest := []) (pc := 3) hX dX4_addCuts_3 (c_X4_changeCuts hL ka0 ka1 hr) mw_X4_changeCuts mv_X4_changeCuts ml_X4_139 (ekC hL ka0) (by decide) rfl rfl rfl rfl (by omega) (by decide) (Nat.le_of_ble_eq_true rfl) ?_
  exact so_vretH (pc := 6) hX hR h dX4_addCuts_6
set_option maxHeartbeats 4000000 in
set_option maxRecDepth 100000 in
theorem c_X4_removeCuts {l : Launch} {V : Ev} (hL : V.2.2.2 = lyC) {a0 : Nat} {a1 : Nat} (ka0 : kdC a0 = 4) (ka1 : kdC a1 = 0) {μ : Mem} {μZ : Mem} (h : f_X4_removeCuts a0 a1 μ = some μZ) : CT l V yX4_removeCuts cX4_removeCuts 2 none 2 [.ref (evA V a0), .ref (evA V a1)] μ μZ none := by
  refine so_met [(0, .ref (evA V a0)), (1, .ref (evA V a1))] (by decide) (Nat.le_of_ble_eq_true rfl) (evCn hL) rfl ?_
  intro X hl hV hn hX hR
  subst hl hV
  unfold f_X4_removeCuts at h
  refine so_aload_n (pc := 0) hX dX4_removeCuts_0 0 rfl ?_
  refine so_aload_n (pc := 1) hX dX4_removeCuts_1 1 rfl ?_
  refine so_iconst (v := (-1 : Int32)) (pc := 2) hX dX4_removeCuts_2 (by decide) ?_
  obtain ⟨μ1, hr, h⟩ := ob h
  refine so_callV (As := [.ref (evA (xV X) a1), .int (-1 : Int32)]) (rest := []) (pc := 3) hX dX4_removeCuts_3 (c_X4_changeCuts hL ka0 ka1 hr) mw_X4_changeCuts mv_X4_changeCuts ml_X4_139 (ekC hL ka0) (by decide) rfl rfl rfl rfl (by omega) (by decide) (Nat.le_of_ble_eq_true rfl) ?_
  exact so_vretH (pc := 6) hX hR h dX4_removeCuts_6
set_option maxHeartbeats 4000000 in
set_option maxRecDepth 100000 in
theorem g_X5_gatherWaiting_L7 {X : Cx} (hX : Fx X cX5_gatherWaiting RX5 1) (hL : (xV X).2.2.2 = lyC) (hn : xn X = 2) {rZ : Int32} {μZ : Mem} (hR : Rt X (some .boolean) μZ (some (.int rZ)))   {K : Mem → Option (Int32 × Mem)} (hK : ∀  (μ : Mem), K μ = some (rZ, μZ) → Gd X 82 [(0, .ref (evA (xV X) 88))] [] μ) : ∀ (n : Nat) (v1 : Int32) (μ : Mem), f_X5_gatherWaiting_L7  K n v1 μ = some (rZ, μZ) → Gd X 7 [(0, .ref (evA (xV X) 88)), (1, .int v1)] [] μ := by
  intro n
  induction n with
  | zero => intro _ _ h; rw [f_X5_gatherWaiting_L7] at h; cases h
  | succ n ih =>
    intro v1 μ h
    rw [f_X5_gatherWaiting_L7] at h
    refine so_iload_n (pc := 7) hX dX5_gatherWaiting_7 1 rfl ?_
    refine so_bipush (v := (8 : Int32)) (pc := 8) hX dX5_gatherWaiting_8 (by decide) ?_
    refine so_icmp_ge (pc := 10) hX 82 dX5_gatherWaiting_10 (by decide) (fun hc1 => ?_) (fun hc1 => ?_)
    · have h := ip hc1 h
      refine so_sub (pc := 82) (lv' := [(0, .ref (evA (xV X) 88))]) [0] rfl ?_
      exact hK _ h
    · have h := iq hc1 h
      refine so_aload_n (pc := 13) hX dX5_gatherWaiting_13 0 rfl ?_
      refine so_gR (pc := 14) hX 6 dX5_gatherWaiting_14 fl_X5_12 (ekC hL rfl) (erC hL rfl) ?_
      refine so_gR (pc := 17) hX 8 dX5_gatherWaiting_17 fl_X5_52 (ekC hL rfl) (erC hL rfl) ?_
      refine so_iload_n (pc := 20) hX dX5_gatherWaiting_20 1 rfl ?_
      obtain ⟨j2, hj3, h⟩ := ob h
      refine so_aald (t0 := 2) (b := (56 + 4 * j2)) (pc := 21) hX dX5_gatherWaiting_21 (ekC hL rfl) (by decide) (by decide) (elC hL rfl) rfl hj3 (erC hL rfl) ?_
      refine so_gI (pc := 22) hX dX5_gatherWaiting_22 fl_X5_56 (ekC hL (kE13 (rR_lt hj3))) ?_
      refine so_if_eq (pc := 25) hX 76 dX5_gatherWaiting_25 (by decide) (fun hc4 => ?_) (fun hc4 => ?_)
      · have h := ip hc4 h
        refine so_iinc (pc := 76) hX dX5_gatherWaiting_76 1 (1 : Int32) [(1, .int (v1 + (1 : Int32))), (0, .ref (evA (xV X) 88))] rfl (by decide) (by rw [hn]; decide) rfl ?_
        refine so_goto (pc := 79) hX 7 dX5_gatherWaiting_79 (by decide) ?_
        refine so_sub (pc := 7) (lv' := [(0, .ref (evA (xV X) 88)), (1, .int (v1 + (1 : Int32)))]) [1, 0] rfl ?_
        exact ih _ _ h
      · have h := iq hc4 h
        refine so_aload_n (pc := 28) hX dX5_gatherWaiting_28 0 rfl ?_
        refine so_gR (pc := 29) hX 6 dX5_gatherWaiting_29 fl_X5_12 (ekC hL rfl) (erC hL rfl) ?_
        refine so_gR (pc := 32) hX 8 dX5_gatherWaiting_32 fl_X5_52 (ekC hL rfl) (erC hL rfl) ?_
        refine so_iload_n (pc := 35) hX dX5_gatherWaiting_35 1 rfl ?_
        obtain ⟨j5, hj6, h⟩ := ob h
        refine so_aald (t0 := 2) (b := (56 + 4 * j5)) (pc := 36) hX dX5_gatherWaiting_36 (ekC hL rfl) (by decide) (by decide) (elC hL rfl) rfl hj6 (erC hL rfl) ?_
        obtain ⟨r8, μ7, hr, h⟩ := obd h
        refine so_callV (As := []) (rest := []) (pc := 37) hX dX5_gatherWaiting_37 (c_X0_isMade hL (kE13 (rR_lt hj6)) hr) mw_X0_isMade mv_X0_isMade ml_X5_62 (ekC hL (kE13 (rR_lt hj6))) (by decide) rfl rfl rfl rfl (by omega) (by decide) (Nat.le_of_ble_eq_true rfl) ?_
        refine so_if_eq (pc := 40) hX 46 dX5_gatherWaiting_40 (by decide) (fun hc9 => ?_) (fun hc9 => ?_)
        · have h := ip hc9 h
          refine so_aload_n (pc := 46) hX dX5_gatherWaiting_46 0 rfl ?_
          refine so_gI (pc := 47) hX dX5_gatherWaiting_47 fl_X5_49 (ekC hL rfl) ?_
          refine so_iconst (v := (3 : Int32)) (pc := 50) hX dX5_gatherWaiting_50 (by decide) ?_
          refine so_icmp_ne (pc := 51) hX 56 dX5_gatherWaiting_51 (by decide) (fun hc10 => ?_) (fun hc10 => ?_)
          · have h := iq hc10 h
            refine so_aload_n (pc := 56) hX dX5_gatherWaiting_56 0 rfl ?_
            refine so_gR (pc := 57) hX 90 dX5_gatherWaiting_57 fl_X5_22 (ekC hL rfl) (erC hL rfl) ?_
            refine so_aload_n (pc := 60) hX dX5_gatherWaiting_60 0 rfl ?_
            refine so_gI (pc := 61) hX dX5_gatherWaiting_61 fl_X5_49 (ekC hL rfl) ?_
            refine so_iload_n (pc := 64) hX dX5_gatherWaiting_64 1 rfl ?_
            obtain ⟨μ11, hr, h⟩ := ob h
            refine so_iast (pc := 65) hX dX5_gatherWaiting_65 (ekC hL rfl) (elC hL rfl) hr ?_
            refine so_aload_n (pc := 66) hX dX5_gatherWaiting_66 0 rfl ?_
            refine so_dup (pc := 67) hX dX5_gatherWaiting_67 rfl ?_
            refine so_gI (pc := 68) hX dX5_gatherWaiting_68 fl_X5_49 (ekC hL rfl) ?_
            refine so_iconst (v := (1 : Int32)) (pc := 71) hX dX5_gatherWaiting_71 (by decide) ?_
            refine so_iadd (pc := 72) hX dX5_gatherWaiting_72 ?_
            refine so_pI (pc := 73) hX dX5_gatherWaiting_73 fl_X5_49 fw_5_5 (ekC hL rfl) rfl rfl ?_
            refine so_iinc (pc := 76) hX dX5_gatherWaiting_76 1 (1 : Int32) [(1, .int (v1 + (1 : Int32))), (0, .ref (evA (xV X) 88))] rfl (by decide) (by rw [hn]; decide) rfl ?_
            refine so_goto (pc := 79) hX 7 dX5_gatherWaiting_79 (by decide) ?_
            refine so_sub (pc := 7) (lv' := [(0, .ref (evA (xV X) 88)), (1, .int (v1 + (1 : Int32)))]) [1, 0] rfl ?_
            exact ih _ _ h
          · have h := ip hc10 h
            refine so_iconst (v := (0 : Int32)) (pc := 54) hX dX5_gatherWaiting_54 (by decide) ?_
            exact so_iretH (pc := 55) hX hR h (by decide) dX5_gatherWaiting_55
        · have h := iq hc9 h
          refine so_goto (pc := 43) hX 76 dX5_gatherWaiting_43 (by decide) ?_
          refine so_iinc (pc := 76) hX dX5_gatherWaiting_76 1 (1 : Int32) [(1, .int (v1 + (1 : Int32))), (0, .ref (evA (xV X) 88))] rfl (by decide) (by rw [hn]; decide) rfl ?_
          refine so_goto (pc := 79) hX 7 dX5_gatherWaiting_79 (by decide) ?_
          refine so_sub (pc := 7) (lv' := [(0, .ref (evA (xV X) 88)), (1, .int (v1 + (1 : Int32)))]) [1, 0] rfl ?_
          exact ih _ _ h
set_option maxHeartbeats 4000000 in
set_option maxRecDepth 100000 in
theorem c_X5_gatherWaiting {l : Launch} {V : Ev} (hL : V.2.2.2 = lyC)   {μ : Mem} {rZ : Int32} {μZ : Mem} (h : f_X5_gatherWaiting  μ = some (rZ, μZ)) : CT l V yX5_gatherWaiting cX5_gatherWaiting 2 (some .boolean) 1 [.ref (evA V 88)] μ μZ (some (.int rZ)) := by
  refine so_met [(0, .ref (evA V 88))] (by decide) (Nat.le_of_ble_eq_true rfl) (evCn hL) rfl ?_
  intro X hl hV hn hX hR
  subst hl hV
  unfold f_X5_gatherWaiting at h
  refine so_aload_n (pc := 0) hX dX5_gatherWaiting_0 0 rfl ?_
  refine so_iconst (v := (0 : Int32)) (pc := 1) hX dX5_gatherWaiting_1 (by decide) ?_
  refine so_pI (pc := 2) hX dX5_gatherWaiting_2 fl_X5_49 fw_5_5 (ekC hL rfl) rfl rfl ?_
  refine so_iconst (v := (0 : Int32)) (pc := 5) hX dX5_gatherWaiting_5 (by decide) ?_
  refine so_istore_n (pc := 6) hX dX5_gatherWaiting_6 [(1, .int (0 : Int32)), (0, .ref (evA (xV X) 88))] (by rw [hn]; decide) rfl ?_
  refine so_sub (pc := 7) (lv' := [(0, .ref (evA (xV X) 88)), (1, .int (0 : Int32))]) [1, 0] rfl ?_
  refine g_X5_gatherWaiting_L7 hX hL hn hR (fun μ12 h => ?_) FU _ _ h
  refine so_aload_n (pc := 82) hX dX5_gatherWaiting_82 0 rfl ?_
  refine so_gI (pc := 83) hX dX5_gatherWaiting_83 fl_X5_49 (ekC hL rfl) ?_
  refine so_if_le (pc := 86) hX 93 dX5_gatherWaiting_86 (by decide) (fun hc13 => ?_) (fun hc13 => ?_)
  · have h := ip hc13 h
    refine so_iconst (v := (0 : Int32)) (pc := 93) hX dX5_gatherWaiting_93 (by decide) ?_
    exact so_iretH (pc := 94) hX hR h (by decide) dX5_gatherWaiting_94
  · have h := iq hc13 h
    refine so_iconst (v := (1 : Int32)) (pc := 89) hX dX5_gatherWaiting_89 (by decide) ?_
    refine so_goto (pc := 90) hX 94 dX5_gatherWaiting_90 (by decide) ?_
    exact so_iretH (pc := 94) hX hR h (by decide) dX5_gatherWaiting_94
