set_option maxHeartbeats 4000000 in
set_option maxRecDepth 100000 in
theorem c_X1_copyFrom {l : Launch} {V : Ev} (hL : V.2.2.2 = lyC) {a0 : Nat} {a1 : Nat} (ka0 : kdC a0 = 1) (ka1 : kdC a1 = 1) {μ : Mem} {μZ : Mem} (h : f_X1_copyFrom a0 a1 μ = some μZ) : CT l V yX1_copyFrom cX1_copyFrom 2 none 1 [.ref (evA V a0), .ref (evA V a1)] μ μZ none := by
  refine so_met [(0, .ref (evA V a0)), (1, .ref (evA V a1))] (by decide) (Nat.le_of_ble_eq_true rfl) (evCn hL) rfl ?_
  intro X hl hV hn hX hR
  subst hl hV
  unfold f_X1_copyFrom at h
  refine so_aload_n (pc := 0) hX dX1_copyFrom_0 1 rfl ?_
  refine so_gR (pc := 1) hX (a1 + 1) dX1_copyFrom_1 fl_X1_11 (ekC hL ka1) (erC hL (rq_1_0 ka1)) ?_
  refine so_iconst (v := (0 : Int32)) (pc := 4) hX dX1_copyFrom_4 (by decide) ?_
  refine so_aload_n (pc := 5) hX dX1_copyFrom_5 0 rfl ?_
  refine so_gR (pc := 6) hX (a0 + 1) dX1_copyFrom_6 fl_X1_11 (ekC hL ka0) (erC hL (rq_1_0 ka0)) ?_
  refine so_iconst (v := (0 : Int32)) (pc := 9) hX dX1_copyFrom_9 (by decide) ?_
  refine so_aload_n (pc := 10) hX dX1_copyFrom_10 0 rfl ?_
  refine so_gR (pc := 11) hX (a0 + 1) dX1_copyFrom_11 fl_X1_11 (ekC hL ka0) (erC hL (rq_1_0 ka0)) ?_
  refine so_alenI (pc := 14) hX dX1_copyFrom_14 (ekC hL (kq_1_0 ka0)) (elC hL (nq_1_0 ka0)) ?_
  obtain ⟨μ1, hr, h⟩ := ob h
  refine so_copy (pc := 15) hX dX1_copyFrom_15 ml_X1_35 (ekC hL (kq_1_0 ka1)) (elC hL (nq_1_0 ka1)) (ekC hL (kq_1_0 ka0)) (elC hL (nq_1_0 ka0)) (by omega) (Nat.le_of_ble_eq_true rfl) hr ?_
  refine so_aload_n (pc := 18) hX dX1_copyFrom_18 0 rfl ?_
  refine so_aload_n (pc := 19) hX dX1_copyFrom_19 1 rfl ?_
  refine so_gI (pc := 20) hX dX1_copyFrom_20 fl_X1_15 (ekC hL ka1) ?_
  refine so_pI (pc := 23) hX dX1_copyFrom_23 fl_X1_15 fw_1_1 (ekC hL ka0) rfl rfl ?_
  refine so_aload_n (pc := 26) hX dX1_copyFrom_26 0 rfl ?_
  refine so_aload_n (pc := 27) hX dX1_copyFrom_27 1 rfl ?_
  refine so_gI (pc := 28) hX dX1_copyFrom_28 fl_X1_19 (ekC hL ka1) ?_
  refine so_pI (pc := 31) hX dX1_copyFrom_31 fl_X1_19 fw_1_2 (ekC hL ka0) rfl rfl ?_
  exact so_vretH (pc := 34) hX hR h dX1_copyFrom_34
set_option maxHeartbeats 4000000 in
set_option maxRecDepth 100000 in
theorem c_X0_notMade {l : Launch} {V : Ev} (hL : V.2.2.2 = lyC) {a0 : Nat} (ka0 : kdC a0 = 0) {μ : Mem} {μZ : Mem} (h : f_X0_notMade a0 μ = some μZ) : CT l V yX0_notMade cX0_notMade 1 none 0 [.ref (evA V a0)] μ μZ none := by
  refine so_met [(0, .ref (evA V a0))] (by decide) (Nat.le_of_ble_eq_true rfl) (evCn hL) rfl ?_
  intro X hl hV hn hX hR
  subst hl hV
  unfold f_X0_notMade at h
  refine so_aload_n (pc := 0) hX dX0_notMade_0 0 rfl ?_
  refine so_iconst (v := (-1 : Int32)) (pc := 1) hX dX0_notMade_1 (by decide) ?_
  refine so_pI (pc := 2) hX dX0_notMade_2 fl_X0_22 fw_0_8 (ekC hL ka0) rfl rfl ?_
  refine so_aload_n (pc := 5) hX dX0_notMade_5 0 rfl ?_
  refine so_iconst (v := (-1 : Int32)) (pc := 6) hX dX0_notMade_6 (by decide) ?_
  refine so_pI (pc := 7) hX dX0_notMade_7 fl_X0_26 fw_0_9 (ekC hL ka0) rfl rfl ?_
  refine so_aload_n (pc := 10) hX dX0_notMade_10 0 rfl ?_
  refine so_iconst (v := (-1 : Int32)) (pc := 11) hX dX0_notMade_11 (by decide) ?_
  refine so_pI (pc := 12) hX dX0_notMade_12 fl_X0_29 fw_0_10 (ekC hL ka0) rfl rfl ?_
  refine so_aload_n (pc := 15) hX dX0_notMade_15 0 rfl ?_
  refine so_iconst (v := (-1 : Int32)) (pc := 16) hX dX0_notMade_16 (by decide) ?_
  refine so_pI (pc := 17) hX dX0_notMade_17 fl_X0_32 fw_0_11 (ekC hL ka0) rfl rfl ?_
  exact so_vretH (pc := 20) hX hR h dX0_notMade_20
set_option maxHeartbeats 4000000 in
set_option maxRecDepth 100000 in
theorem g_J7_fill_53178_L5 {X : Cx} (hX : Fx X cJ7_fill_53178 RJ7 0) (hL : (xV X).2.2.2 = lyC) (hn : xn X = 4) {μZ : Mem} (hR : Rt X none μZ none) {n0 : Nat} {b0 : Nat} {v1 : Int32} {v3 : Int32} (kb0 : kdC b0 = 11) (nb0 : lnC b0 = n0) {K : Mem → Option (Mem)} (hK : ∀  (μ : Mem), K μ = some μZ → Gd X 20 [] [] μ) : ∀ (n : Nat) (v2 : Int32) (μ : Mem), f_J7_fill_53178_L5 n0 b0 v1 v3 K n v2 μ = some μZ → Gd X 5 [(0, .ref (evA (xV X) b0)), (1, .int v1), (2, .int v2), (3, .int v3)] [] μ := by
  intro n
  induction n with
  | zero => intro _ _ h; rw [f_J7_fill_53178_L5] at h; cases h
  | succ n ih =>
    intro v2 μ h
    rw [f_J7_fill_53178_L5] at h
    refine so_iload_n (pc := 5) hX dJ7_fill_53178_5 2 rfl ?_
    refine so_iload_n (pc := 6) hX dJ7_fill_53178_6 3 rfl ?_
    refine so_icmp_ge (pc := 7) hX 20 dJ7_fill_53178_7 (by decide) (fun hc1 => ?_) (fun hc1 => ?_)
    · have h := ip hc1 h
      refine so_sub (pc := 20) (lv' := []) [] rfl ?_
      exact hK _ h
    · have h := iq hc1 h
      refine so_aload_n (pc := 10) hX dJ7_fill_53178_10 0 rfl ?_
      refine so_iload_n (pc := 11) hX dJ7_fill_53178_11 2 rfl ?_
      refine so_iload_n (pc := 12) hX dJ7_fill_53178_12 1 rfl ?_
      obtain ⟨μ2, hr, h⟩ := ob h
      refine so_iast (pc := 13) hX dJ7_fill_53178_13 (ekC hL kb0) (elC hL nb0) hr ?_
      refine so_iinc (pc := 14) hX dJ7_fill_53178_14 2 (1 : Int32) [(2, .int (v2 + (1 : Int32))), (0, .ref (evA (xV X) b0)), (1, .int v1), (3, .int v3)] rfl (by decide) (by rw [hn]; decide) rfl ?_
      refine so_goto (pc := 17) hX 5 dJ7_fill_53178_17 (by decide) ?_
      refine so_sub (pc := 5) (lv' := [(0, .ref (evA (xV X) b0)), (1, .int v1), (2, .int (v2 + (1 : Int32))), (3, .int v3)]) [1, 2, 0, 3] rfl ?_
      exact ih _ _ h
set_option maxHeartbeats 4000000 in
set_option maxRecDepth 100000 in
theorem c_J7_fill_53178 {l : Launch} {V : Ev} (hL : V.2.2.2 = lyC) {n0 : Nat} {a0 : Nat} {v1 : Int32} (ka0 : kdC a0 = 11) (na0 : lnC a0 = n0) {μ : Mem} {μZ : Mem} (h : f_J7_fill_53178 n0 a0 v1 μ = some μZ) : CT l V yJ7_fill_53178 cJ7_fill_53178 4 none 0 [.ref (evA V a0), .int v1] μ μZ none := by
  refine so_met [(0, .ref (evA V a0)), (1, .int v1)] (by decide) (Nat.le_of_ble_eq_true rfl) (evCn hL) rfl ?_
  intro X hl hV hn hX hR
  subst hl hV
  unfold f_J7_fill_53178 at h
  refine so_iconst (v := (0 : Int32)) (pc := 0) hX dJ7_fill_53178_0 (by decide) ?_
  refine so_istore_n (pc := 1) hX dJ7_fill_53178_1 [(2, .int (0 : Int32)), (0, .ref (evA (xV X) a0)), (1, .int v1)] (by rw [hn]; decide) rfl ?_
  refine so_aload_n (pc := 2) hX dJ7_fill_53178_2 1 rfl ?_
  refine so_alenI (pc := 3) hX dJ7_fill_53178_3 (ekC hL ka0) (elC hL na0) ?_
  refine so_istore_n (pc := 4) hX dJ7_fill_53178_4 [(3, .int (nI n0)), (2, .int (0 : Int32)), (0, .ref (evA (xV X) a0)), (1, .int v1)] (by rw [hn]; decide) rfl ?_
  refine so_sub (pc := 5) (lv' := [(0, .ref (evA (xV X) a0)), (1, .int v1), (2, .int (0 : Int32)), (3, .int (nI n0))]) [2, 3, 1, 0] rfl ?_
  refine g_J7_fill_53178_L5 hX hL hn hR ka0 na0 (fun μ3 h => ?_) FU _ _ h
  exact so_vretH (pc := 20) hX hR h dJ7_fill_53178_20
set_option maxHeartbeats 4000000 in
set_option maxRecDepth 100000 in
theorem c_X1_cellAt {l : Launch} {V : Ev} (hL : V.2.2.2 = lyC) {a0 : Nat} {v1 : Int32} {v2 : Int32} (ka0 : kdC a0 = 1) {μ : Mem} {rZ : Int32} {μZ : Mem} (h : f_X1_cellAt a0 v1 v2 μ = some (rZ, μZ)) : CT l V yX1_cellAt cX1_cellAt 4 (some .int) 0 [.ref (evA V a0), .int v1, .int v2] μ μZ (some (.int rZ)) := by
  refine so_met [(0, .ref (evA V a0)), (1, .int v1), (2, .int v2)] (by decide) (Nat.le_of_ble_eq_true rfl) (evCn hL) rfl ?_
  intro X hl hV hn hX hR
  subst hl hV
  unfold f_X1_cellAt at h
  refine so_iconst (v := (0 : Int32)) (pc := 0) hX dX1_cellAt_0 (by decide) ?_
  refine so_iload_n (pc := 1) hX dX1_cellAt_1 1 rfl ?_
  refine so_icmp_gt (pc := 2) hX 26 dX1_cellAt_2 (by decide) (fun hc1 => ?_) (fun hc1 => ?_)
  · have h := ip hc1 h
    refine so_iconst (v := (0 : Int32)) (pc := 26) hX dX1_cellAt_26 (by decide) ?_
    refine so_istore_n (pc := 27) hX dX1_cellAt_27 [(3, .int (0 : Int32)), (0, .ref (evA (xV X) a0)), (1, .int v1), (2, .int v2)] (by rw [hn]; decide) rfl ?_
    refine so_iload_n (pc := 28) hX dX1_cellAt_28 0 rfl ?_
    refine so_if_eq (pc := 29) hX 46 dX1_cellAt_29 (by decide) (fun _ => ?_) (fun hz => absurd hz (by decide))
    refine so_iconst (v := (-1 : Int32)) (pc := 46) hX dX1_cellAt_46 (by decide) ?_
    exact so_iretH (pc := 47) hX hR h rfl dX1_cellAt_47
  · have h := iq hc1 h
    refine so_iload_n (pc := 5) hX dX1_cellAt_5 1 rfl ?_
    refine so_bipush (v := (8 : Int32)) (pc := 6) hX dX1_cellAt_6 (by decide) ?_
    refine so_icmp_ge (pc := 8) hX 26 dX1_cellAt_8 (by decide) (fun hc2 => ?_) (fun hc2 => ?_)
    · have h := ip hc2 h
      refine so_iconst (v := (0 : Int32)) (pc := 26) hX dX1_cellAt_26 (by decide) ?_
      refine so_istore_n (pc := 27) hX dX1_cellAt_27 [(3, .int (0 : Int32)), (0, .ref (evA (xV X) a0)), (1, .int v1), (2, .int v2)] (by rw [hn]; decide) rfl ?_
      refine so_iload_n (pc := 28) hX dX1_cellAt_28 0 rfl ?_
      refine so_if_eq (pc := 29) hX 46 dX1_cellAt_29 (by decide) (fun _ => ?_) (fun hz => absurd hz (by decide))
      refine so_iconst (v := (-1 : Int32)) (pc := 46) hX dX1_cellAt_46 (by decide) ?_
      exact so_iretH (pc := 47) hX hR h rfl dX1_cellAt_47
    · have h := iq hc2 h
      refine so_iconst (v := (0 : Int32)) (pc := 11) hX dX1_cellAt_11 (by decide) ?_
      refine so_iload_n (pc := 12) hX dX1_cellAt_12 2 rfl ?_
      refine so_icmp_gt (pc := 13) hX 26 dX1_cellAt_13 (by decide) (fun hc3 => ?_) (fun hc3 => ?_)
      · have h := ip hc3 h
        refine so_iconst (v := (0 : Int32)) (pc := 26) hX dX1_cellAt_26 (by decide) ?_
        refine so_istore_n (pc := 27) hX dX1_cellAt_27 [(3, .int (0 : Int32)), (0, .ref (evA (xV X) a0)), (1, .int v1), (2, .int v2)] (by rw [hn]; decide) rfl ?_
        refine so_iload_n (pc := 28) hX dX1_cellAt_28 0 rfl ?_
        refine so_if_eq (pc := 29) hX 46 dX1_cellAt_29 (by decide) (fun _ => ?_) (fun hz => absurd hz (by decide))
        refine so_iconst (v := (-1 : Int32)) (pc := 46) hX dX1_cellAt_46 (by decide) ?_
        exact so_iretH (pc := 47) hX hR h rfl dX1_cellAt_47
      · have h := iq hc3 h
        refine so_iload_n (pc := 16) hX dX1_cellAt_16 2 rfl ?_
        refine so_bipush (v := (8 : Int32)) (pc := 17) hX dX1_cellAt_17 (by decide) ?_
        refine so_icmp_ge (pc := 19) hX 26 dX1_cellAt_19 (by decide) (fun hc4 => ?_) (fun hc4 => ?_)
        · have h := ip hc4 h
          refine so_iconst (v := (0 : Int32)) (pc := 26) hX dX1_cellAt_26 (by decide) ?_
          refine so_istore_n (pc := 27) hX dX1_cellAt_27 [(3, .int (0 : Int32)), (0, .ref (evA (xV X) a0)), (1, .int v1), (2, .int v2)] (by rw [hn]; decide) rfl ?_
          refine so_iload_n (pc := 28) hX dX1_cellAt_28 0 rfl ?_
          refine so_if_eq (pc := 29) hX 46 dX1_cellAt_29 (by decide) (fun _ => ?_) (fun hz => absurd hz (by decide))
          refine so_iconst (v := (-1 : Int32)) (pc := 46) hX dX1_cellAt_46 (by decide) ?_
          exact so_iretH (pc := 47) hX hR h rfl dX1_cellAt_47
        · have h := iq hc4 h
          refine so_iconst (v := (1 : Int32)) (pc := 22) hX dX1_cellAt_22 (by decide) ?_
          refine so_goto (pc := 23) hX 27 dX1_cellAt_23 (by decide) ?_
          refine so_istore_n (pc := 27) hX dX1_cellAt_27 [(3, .int (1 : Int32)), (0, .ref (evA (xV X) a0)), (1, .int v1), (2, .int v2)] (by rw [hn]; decide) rfl ?_
          refine so_iload_n (pc := 28) hX dX1_cellAt_28 0 rfl ?_
          refine so_if_eq (pc := 29) hX 46 dX1_cellAt_29 (by decide) (fun hz => absurd hz (by decide)) (fun _ => ?_)
          refine so_aload_n (pc := 32) hX dX1_cellAt_32 1 rfl ?_
          refine so_gR (pc := 33) hX (a0 + 1) dX1_cellAt_33 fl_X1_11 (ekC hL ka0) (erC hL (rq_1_0 ka0)) ?_
          refine so_iload_n (pc := 36) hX dX1_cellAt_36 3 rfl ?_
          refine so_bipush (v := (8 : Int32)) (pc := 37) hX dX1_cellAt_37 (by decide) ?_
          refine so_imul (pc := 39) hX dX1_cellAt_39 ?_
          refine so_iload_n (pc := 40) hX dX1_cellAt_40 2 rfl ?_
          refine so_iadd (pc := 41) hX dX1_cellAt_41 ?_
          obtain ⟨e5, hr, h⟩ := ob h
          refine so_iald (pc := 42) hX dX1_cellAt_42 (ekC hL (kq_1_0 ka0)) (elC hL (nq_1_0 ka0)) hr ?_
          refine so_goto (pc := 43) hX 47 dX1_cellAt_43 (by decide) ?_
          exact so_iretH (pc := 47) hX hR h rfl dX1_cellAt_47
set_option maxHeartbeats 4000000 in
set_option maxRecDepth 100000 in
theorem c_X1_offsetAt {l : Launch} {V : Ev} (hL : V.2.2.2 = lyC) {a0 : Nat} {v1 : Int32} {v2 : Int32} (ka0 : kdC a0 = 1) {μ : Mem} {rZ : Int32} {μZ : Mem} (h : f_X1_offsetAt a0 v1 v2 μ = some (rZ, μZ)) : CT l V yX1_offsetAt cX1_offsetAt 3 (some .int) 1 [.ref (evA V a0), .int v1, .int v2] μ μZ (some (.int rZ)) := by
  refine so_met [(0, .ref (evA V a0)), (1, .int v1), (2, .int v2)] (by decide) (Nat.le_of_ble_eq_true rfl) (evCn hL) rfl ?_
  intro X hl hV hn hX hR
  subst hl hV
  unfold f_X1_offsetAt at h
  refine so_aload_n (pc := 0) hX dX1_offsetAt_0 0 rfl ?_
  refine so_iload_n (pc := 1) hX dX1_offsetAt_1 1 rfl ?_
  refine so_iload_n (pc := 2) hX dX1_offsetAt_2 2 rfl ?_
  obtain ⟨r2, μ1, hr, h⟩ := obd h
  refine so_callV (As := [.int v1, .int v2]) (rest := []) (pc := 3) hX dX1_offsetAt_3 (c_X1_cellAt hL ka0 hr) mw_X1_cellAt mv_X1_cellAt ml_X1_26 (ekC hL ka0) (by decide) rfl rfl rfl rfl (by omega) (by decide) (Nat.le_of_ble_eq_true rfl) ?_
  refine so_bipush (v := (15 : Int32)) (pc := 6) hX dX1_offsetAt_6 (by decide) ?_
  refine so_iand (pc := 8) hX dX1_offsetAt_8 ?_
  refine so_bipush (v := (9 : Int32)) (pc := 9) hX dX1_offsetAt_9 (by decide) ?_
  refine so_mmin (pc := 11) hX dX1_offsetAt_11 ml_X1_30 (by omega) (Nat.le_of_ble_eq_true rfl) ?_
  exact so_iretH (pc := 14) hX hR h rfl dX1_offsetAt_14
set_option maxHeartbeats 4000000 in
set_option maxRecDepth 100000 in
theorem g_X0_countOffsets_L34 {X : Cx} (hX : Fx X cX0_countOffsets RX0 2) (hL : (xV X).2.2.2 = lyC) (hn : xn X = 4) {μZ : Mem} (hR : Rt X none μZ none) {b0 : Nat} {v1 : Int32} (kb0 : kdC b0 = 0) {K : Mem → Option (Mem)} (hK : ∀  (μ : Mem), K μ = some μZ → Gd X 95 [(0, .ref (evA (xV X) b0)), (1, .int v1)] [] μ) : ∀ (n : Nat) (v2 : Int32) (μ : Mem), f_X0_countOffsets_L34 b0 v1 K n v2 μ = some μZ → Gd X 34 [(0, .ref (evA (xV X) b0)), (1, .int v1), (2, .int v2)] [] μ := by
  intro n
  induction n with
  | zero => intro _ _ h; rw [f_X0_countOffsets_L34] at h; cases h
  | succ n ih =>
    intro v2 μ h
    rw [f_X0_countOffsets_L34] at h
    refine so_iload_n (pc := 34) hX dX0_countOffsets_34 2 rfl ?_
    refine so_aload_n (pc := 35) hX dX0_countOffsets_35 0 rfl ?_
    refine so_gR (pc := 36) hX (b0 + 1) dX0_countOffsets_36 fl_X0_12 (ekC hL kb0) (erC hL (rq_0_0 kb0)) ?_
    refine so_gI (pc := 39) hX dX0_countOffsets_39 fl_X0_71 (ekC hL (kq_0_0 kb0)) ?_
    refine so_icmp_ge (pc := 42) hX 95 dX0_countOffsets_42 (by decide) (fun hc3 => ?_) (fun hc3 => ?_)
    · have h := ip hc3 h
      refine so_sub (pc := 95) (lv' := [(0, .ref (evA (xV X) b0)), (1, .int v1)]) [0, 1] rfl ?_
      exact hK _ h
    · have h := iq hc3 h
      refine so_aload_n (pc := 45) hX dX0_countOffsets_45 0 rfl ?_
      refine so_gR (pc := 46) hX (b0 + 1) dX0_countOffsets_46 fl_X0_12 (ekC hL kb0) (erC hL (rq_0_0 kb0)) ?_
      refine so_iload_n (pc := 49) hX dX0_countOffsets_49 2 rfl ?_
      refine so_iload_n (pc := 50) hX dX0_countOffsets_50 1 rfl ?_
      obtain ⟨r5, μ4, hr, h⟩ := obd h
      refine so_callV (As := [.int v2, .int v1]) (rest := []) (pc := 51) hX dX0_countOffsets_51 (c_X1_offsetAt hL (kq_0_0 kb0) hr) mw_X1_offsetAt mv_X1_offsetAt ml_X0_72 (ekC hL (kq_0_0 kb0)) (by decide) rfl rfl rfl rfl (by omega) (by decide) (Nat.le_of_ble_eq_true rfl) ?_
      refine so_istore_n (pc := 54) hX dX0_countOffsets_54 [(3, .int r5), (0, .ref (evA (xV X) b0)), (1, .int v1), (2, .int v2)] (by rw [hn]; decide) rfl ?_
      refine so_aload_n (pc := 55) hX dX0_countOffsets_55 1 rfl ?_
      refine so_gR (pc := 56) hX (b0 + 3) dX0_countOffsets_56 fl_X0_18 (ekC hL kb0) (erC hL (rq_0_1 kb0)) ?_
      refine so_iload_n (pc := 59) hX dX0_countOffsets_59 0 rfl ?_
      refine so_dup2 (pc := 60) hX dX0_countOffsets_60 rfl rfl ?_
      obtain ⟨e6, hr, h⟩ := ob h
      refine so_iald (pc := 61) hX dX0_countOffsets_61 (ekC hL (kq_0_1 kb0)) (elC hL (nq_0_1 kb0)) hr ?_
      refine so_iconst (v := (1 : Int32)) (pc := 62) hX dX0_countOffsets_62 (by decide) ?_
      refine so_iadd (pc := 63) hX dX0_countOffsets_63 ?_
      obtain ⟨μ7, hr, h⟩ := ob h
      refine so_iast (pc := 64) hX dX0_countOffsets_64 (ekC hL (kq_0_1 kb0)) (elC hL (nq_0_1 kb0)) hr ?_
      refine so_aload_n (pc := 65) hX dX0_countOffsets_65 1 rfl ?_
      refine so_aload_n (pc := 66) hX dX0_countOffsets_66 1 rfl ?_
      refine so_gI (pc := 67) hX dX0_countOffsets_67 fl_X0_64 (ekC hL kb0) ?_
      refine so_iload_n (pc := 70) hX dX0_countOffsets_70 0 rfl ?_
      refine so_mmin (pc := 71) hX dX0_countOffsets_71 ml_X0_76 (by omega) (Nat.le_of_ble_eq_true rfl) ?_
      refine so_pI (pc := 74) hX dX0_countOffsets_74 fl_X0_64 fw_0_6 (ekC hL kb0) rfl rfl ?_
      refine so_aload_n (pc := 77) hX dX0_countOffsets_77 1 rfl ?_
      refine so_aload_n (pc := 78) hX dX0_countOffsets_78 1 rfl ?_
      refine so_gI (pc := 79) hX dX0_countOffsets_79 fl_X0_67 (ekC hL kb0) ?_
      refine so_iload_n (pc := 82) hX dX0_countOffsets_82 0 rfl ?_
      refine so_mmax (pc := 83) hX dX0_countOffsets_83 ml_X0_81 (by omega) (Nat.le_of_ble_eq_true rfl) ?_
      refine so_pI (pc := 86) hX dX0_countOffsets_86 fl_X0_67 fw_0_7 (ekC hL kb0) rfl rfl ?_
      refine so_iinc (pc := 89) hX dX0_countOffsets_89 3 (1 : Int32) [(2, .int (v2 + (1 : Int32))), (3, .int r5), (0, .ref (evA (xV X) b0)), (1, .int v1)] rfl (by decide) (by rw [hn]; decide) rfl ?_
      refine so_goto (pc := 92) hX 34 dX0_countOffsets_92 (by decide) ?_
      refine so_sub (pc := 34) (lv' := [(0, .ref (evA (xV X) b0)), (1, .int v1), (2, .int (v2 + (1 : Int32)))]) [2, 3, 0] rfl ?_
      exact ih _ _ h
set_option maxHeartbeats 4000000 in
set_option maxRecDepth 100000 in
theorem g_X0_countOffsets_L21 {X : Cx} (hX : Fx X cX0_countOffsets RX0 2) (hL : (xV X).2.2.2 = lyC) (hn : xn X = 4) {μZ : Mem} (hR : Rt X none μZ none) {b0 : Nat} (kb0 : kdC b0 = 0) {K : Mem → Option (Mem)} (hK : ∀  (μ : Mem), K μ = some μZ → Gd X 101 [] [] μ) : ∀ (n : Nat) (v1 : Int32) (μ : Mem), f_X0_countOffsets_L21 b0 K n v1 μ = some μZ → Gd X 21 [(0, .ref (evA (xV X) b0)), (1, .int v1)] [] μ := by
  intro n
  induction n with
  | zero => intro _ _ h; rw [f_X0_countOffsets_L21] at h; cases h
  | succ n ih =>
    intro v1 μ h
    rw [f_X0_countOffsets_L21] at h
    refine so_iload_n (pc := 21) hX dX0_countOffsets_21 1 rfl ?_
    refine so_aload_n (pc := 22) hX dX0_countOffsets_22 0 rfl ?_
    refine so_gR (pc := 23) hX (b0 + 1) dX0_countOffsets_23 fl_X0_12 (ekC hL kb0) (erC hL (rq_0_0 kb0)) ?_
    refine so_gI (pc := 26) hX dX0_countOffsets_26 fl_X0_70 (ekC hL (kq_0_0 kb0)) ?_
    refine so_icmp_ge (pc := 29) hX 101 dX0_countOffsets_29 (by decide) (fun hc2 => ?_) (fun hc2 => ?_)
    · have h := ip hc2 h
      refine so_sub (pc := 101) (lv' := []) [] rfl ?_
      exact hK _ h
    · have h := iq hc2 h
      refine so_iconst (v := (0 : Int32)) (pc := 32) hX dX0_countOffsets_32 (by decide) ?_
      refine so_istore_n (pc := 33) hX dX0_countOffsets_33 [(2, .int (0 : Int32)), (0, .ref (evA (xV X) b0)), (1, .int v1)] (by rw [hn]; decide) rfl ?_
      refine so_sub (pc := 34) (lv' := [(0, .ref (evA (xV X) b0)), (1, .int v1), (2, .int (0 : Int32))]) [1, 2, 0] rfl ?_
      refine g_X0_countOffsets_L34 hX hL hn hR kb0 (fun μ8 h => ?_) FU _ _ h
      refine so_iinc (pc := 95) hX dX0_countOffsets_95 1 (1 : Int32) [(1, .int (v1 + (1 : Int32))), (0, .ref (evA (xV X) b0))] rfl (by decide) (by rw [hn]; decide) rfl ?_
      refine so_goto (pc := 98) hX 21 dX0_countOffsets_98 (by decide) ?_
      refine so_sub (pc := 21) (lv' := [(0, .ref (evA (xV X) b0)), (1, .int (v1 + (1 : Int32)))]) [1, 0] rfl ?_
      exact ih _ _ h
set_option maxHeartbeats 4000000 in
set_option maxRecDepth 100000 in
theorem c_X0_countOffsets {l : Launch} {V : Ev} (hL : V.2.2.2 = lyC) {a0 : Nat} (ka0 : kdC a0 = 0) {μ : Mem} {μZ : Mem} (h : f_X0_countOffsets a0 μ = some μZ) : CT l V yX0_countOffsets cX0_countOffsets 4 none 2 [.ref (evA V a0)] μ μZ none := by
  refine so_met [(0, .ref (evA V a0))] (by decide) (Nat.le_of_ble_eq_true rfl) (evCn hL) rfl ?_
  intro X hl hV hn hX hR
  subst hl hV
  unfold f_X0_countOffsets at h
  refine so_aload_n (pc := 0) hX dX0_countOffsets_0 0 rfl ?_
  refine so_gR (pc := 1) hX (a0 + 3) dX0_countOffsets_1 fl_X0_18 (ekC hL ka0) (erC hL (rq_0_1 ka0)) ?_
  refine so_iconst (v := (0 : Int32)) (pc := 4) hX dX0_countOffsets_4 (by decide) ?_
  obtain ⟨μ1, hr, h⟩ := ob h
  refine so_callS (As := [.ref (evA (xV X) (a0 + 3)), .int (0 : Int32)]) (rest := []) (pc := 5) hX dX0_countOffsets_5 (c_J7_fill_53178 hL (kq_0_1 ka0) (nq_0_1 ka0) hr) mw_J7_fill_53178 ms_J7_fill_53178 ml_X0_58 rfl rfl (by omega) (by decide) (Nat.le_of_ble_eq_true rfl) ?_
  refine so_aload_n (pc := 8) hX dX0_countOffsets_8 0 rfl ?_
  refine so_bipush (v := (9 : Int32)) (pc := 9) hX dX0_countOffsets_9 (by decide) ?_
  refine so_pI (pc := 11) hX dX0_countOffsets_11 fl_X0_64 fw_0_6 (ekC hL ka0) rfl rfl ?_
  refine so_aload_n (pc := 14) hX dX0_countOffsets_14 0 rfl ?_
  refine so_iconst (v := (0 : Int32)) (pc := 15) hX dX0_countOffsets_15 (by decide) ?_
  refine so_pI (pc := 16) hX dX0_countOffsets_16 fl_X0_67 fw_0_7 (ekC hL ka0) rfl rfl ?_
  refine so_iconst (v := (0 : Int32)) (pc := 19) hX dX0_countOffsets_19 (by decide) ?_
  refine so_istore_n (pc := 20) hX dX0_countOffsets_20 [(1, .int (0 : Int32)), (0, .ref (evA (xV X) a0))] (by rw [hn]; decide) rfl ?_
  refine so_sub (pc := 21) (lv' := [(0, .ref (evA (xV X) a0)), (1, .int (0 : Int32))]) [1, 0] rfl ?_
  refine g_X0_countOffsets_L21 hX hL hn hR ka0 (fun μ9 h => ?_) FU _ _ h
  exact so_vretH (pc := 101) hX hR h dX0_countOffsets_101
set_option maxHeartbeats 4000000 in
set_option maxRecDepth 100000 in
theorem c_X0_begin {l : Launch} {V : Ev} (hL : V.2.2.2 = lyC) {a0 : Nat} {a1 : Nat} {v2 : Int32} {v3 : Int32} {v4 : Int32} (ka0 : kdC a0 = 0) (ka1 : kdC a1 = 1) {μ : Mem} {μZ : Mem} (h : f_X0_begin a0 a1 v2 v3 v4 μ = some μZ) : CT l V yX0_begin cX0_begin 5 none 3 [.ref (evA V a0), .ref (evA V a1), .int v2, .int v3, .int v4] μ μZ none := by
  refine so_met [(0, .ref (evA V a0)), (1, .ref (evA V a1)), (2, .int v2), (3, .int v3), (4, .int v4)] (by decide) (Nat.le_of_ble_eq_true rfl) (evCn hL) rfl ?_
  intro X hl hV hn hX hR
  subst hl hV
  unfold f_X0_begin at h
  refine so_aload_n (pc := 0) hX dX0_begin_0 0 rfl ?_
  refine so_iconst (v := (1 : Int32)) (pc := 1) hX dX0_begin_1 (by decide) ?_
  refine so_pI (pc := 2) hX dX0_begin_2 fl_X0_35 fw_0_2 (ekC hL ka0) rfl rfl ?_
  refine so_aload_n (pc := 5) hX dX0_begin_5 0 rfl ?_
  refine so_gR (pc := 6) hX (a0 + 1) dX0_begin_6 fl_X0_12 (ekC hL ka0) (erC hL (rq_0_0 ka0)) ?_
  refine so_aload_n (pc := 9) hX dX0_begin_9 1 rfl ?_
  obtain ⟨μ1, hr, h⟩ := ob h
  refine so_callV (As := [.ref (evA (xV X) a1)]) (rest := []) (pc := 10) hX dX0_begin_10 (c_X1_copyFrom hL (kq_0_0 ka0) ka1 hr) mw_X1_copyFrom mv_X1_copyFrom ml_X0_39 (ekC hL (kq_0_0 ka0)) (by decide) rfl rfl rfl rfl (by omega) (by decide) (Nat.le_of_ble_eq_true rfl) ?_
  refine so_aload_n (pc := 13) hX dX0_begin_13 0 rfl ?_
  refine so_iload_n (pc := 14) hX dX0_begin_14 2 rfl ?_
  refine so_pI (pc := 15) hX dX0_begin_15 fl_X0_43 fw_0_3 (ekC hL ka0) rfl rfl ?_
  refine so_aload_n (pc := 18) hX dX0_begin_18 0 rfl ?_
  refine so_iload_n (pc := 19) hX dX0_begin_19 3 rfl ?_
  refine so_pI (pc := 20) hX dX0_begin_20 fl_X0_46 fw_0_4 (ekC hL ka0) rfl rfl ?_
  refine so_aload_n (pc := 23) hX dX0_begin_23 0 rfl ?_
  refine so_iload (pc := 24) hX dX0_begin_24 4 rfl ?_
  refine so_pI (pc := 26) hX dX0_begin_26 fl_X0_49 fw_0_5 (ekC hL ka0) rfl rfl ?_
  refine so_aload_n (pc := 29) hX dX0_begin_29 0 rfl ?_
  obtain ⟨μ2, hr, h⟩ := ob h
  refine so_callV (As := []) (rest := []) (pc := 30) hX dX0_begin_30 (c_X0_notMade hL ka0 hr) mw_X0_notMade mv_X0_notMade ml_X0_52 (ekC hL ka0) (by decide) rfl rfl rfl rfl (by omega) (by decide) (Nat.le_of_ble_eq_true rfl) ?_
  refine so_aload_n (pc := 33) hX dX0_begin_33 0 rfl ?_
  obtain ⟨μ3, hr, h⟩ := ob h
  refine so_callV (As := []) (rest := []) (pc := 34) hX dX0_begin_34 (c_X0_countOffsets hL ka0 hr) mw_X0_countOffsets mv_X0_countOffsets ml_X0_55 (ekC hL ka0) (by decide) rfl rfl rfl rfl (by omega) (by decide) (Nat.le_of_ble_eq_true rfl) ?_
  exact so_vretH (pc := 37) hX hR h dX0_begin_37
set_option maxHeartbeats 4000000 in
set_option maxRecDepth 100000 in
theorem c_X0_stackHigh {l : Launch} {V : Ev} (hL : V.2.2.2 = lyC) {a0 : Nat} {v1 : Int32} (ka0 : kdC a0 = 0) {μ : Mem} {rZ : Int32} {μZ : Mem} (h : f_X0_stackHigh a0 v1 μ = some (rZ, μZ)) : CT l V yX0_stackHigh cX0_stackHigh 2 (some .int) 0 [.ref (evA V a0), .int v1] μ μZ (some (.int rZ)) := by
  refine so_met [(0, .ref (evA V a0)), (1, .int v1)] (by decide) (Nat.le_of_ble_eq_true rfl) (evCn hL) rfl ?_
  intro X hl hV hn hX hR
  subst hl hV
  unfold f_X0_stackHigh at h
  refine so_aload_n (pc := 0) hX dX0_stackHigh_0 0 rfl ?_
  refine so_gR (pc := 1) hX (a0 + 3) dX0_stackHigh_1 fl_X0_18 (ekC hL ka0) (erC hL (rq_0_1 ka0)) ?_
  refine so_iload_n (pc := 4) hX dX0_stackHigh_4 1 rfl ?_
  obtain ⟨e1, hr, h⟩ := ob h
  refine so_iald (pc := 5) hX dX0_stackHigh_5 (ekC hL (kq_0_1 ka0)) (elC hL (nq_0_1 ka0)) hr ?_
  refine so_aload_n (pc := 6) hX dX0_stackHigh_6 0 rfl ?_
  refine so_gI (pc := 7) hX dX0_stackHigh_7 fl_X0_46 (ekC hL ka0) ?_
  refine so_imul (pc := 10) hX dX0_stackHigh_10 ?_
  exact so_iretH (pc := 11) hX hR h rfl dX0_stackHigh_11
set_option maxHeartbeats 4000000 in
set_option maxRecDepth 100000 in
theorem c_X0_isMade {l : Launch} {V : Ev} (hL : V.2.2.2 = lyC) {a0 : Nat} (ka0 : kdC a0 = 0) {μ : Mem} {rZ : Int32} {μZ : Mem} (h : f_X0_isMade a0 μ = some (rZ, μZ)) : CT l V yX0_isMade cX0_isMade 1 (some .boolean) 0 [.ref (evA V a0)] μ μZ (some (.int rZ)) := by
  refine so_met [(0, .ref (evA V a0))] (by decide) (Nat.le_of_ble_eq_true rfl) (evCn hL) rfl ?_
  intro X hl hV hn hX hR
  subst hl hV
  unfold f_X0_isMade at h
  refine so_aload_n (pc := 0) hX dX0_isMade_0 0 rfl ?_
  refine so_gI (pc := 1) hX dX0_isMade_1 fl_X0_22 (ekC hL ka0) ?_
  refine so_iconst (v := (-1 : Int32)) (pc := 4) hX dX0_isMade_4 (by decide) ?_
  refine so_icmp_eq (pc := 5) hX 12 dX0_isMade_5 (by decide) (fun hc1 => ?_) (fun hc1 => ?_)
  · have h := ip hc1 h
    refine so_iconst (v := (0 : Int32)) (pc := 12) hX dX0_isMade_12 (by decide) ?_
    exact so_iretH (pc := 13) hX hR h (by decide) dX0_isMade_13
  · have h := iq hc1 h
    refine so_iconst (v := (1 : Int32)) (pc := 8) hX dX0_isMade_8 (by decide) ?_
    refine so_goto (pc := 9) hX 13 dX0_isMade_9 (by decide) ?_
    exact so_iretH (pc := 13) hX hR h (by decide) dX0_isMade_13
set_option maxHeartbeats 4000000 in
set_option maxRecDepth 100000 in
theorem c_X0_madeAt {l : Launch} {V : Ev} (hL : V.2.2.2 = lyC) {a0 : Nat} {v1 : Int32} (ka0 : kdC a0 = 0) {μ : Mem} {μZ : Mem} (h : f_X0_madeAt a0 v1 μ = some μZ) : CT l V yX0_madeAt cX0_madeAt 3 none 0 [.ref (evA V a0), .int v1, .ref (evA V 9)] μ μZ none := by
  refine so_met [(0, .ref (evA V a0)), (1, .int v1), (2, .ref (evA V 9))] (by decide) (Nat.le_of_ble_eq_true rfl) (evCn hL) rfl ?_
  intro X hl hV hn hX hR
  subst hl hV
  unfold f_X0_madeAt at h
  refine so_aload_n (pc := 0) hX dX0_madeAt_0 0 rfl ?_
  refine so_iload_n (pc := 1) hX dX0_madeAt_1 1 rfl ?_
  refine so_pI (pc := 2) hX dX0_madeAt_2 fl_X0_22 fw_0_8 (ekC hL ka0) rfl rfl ?_
  refine so_aload_n (pc := 5) hX dX0_madeAt_5 0 rfl ?_
  refine so_aload_n (pc := 6) hX dX0_madeAt_6 2 rfl ?_
  refine so_gI (pc := 7) hX dX0_madeAt_7 fl_X0_84 (ekC hL rfl) ?_
  refine so_pI (pc := 10) hX dX0_madeAt_10 fl_X0_26 fw_0_9 (ekC hL ka0) rfl rfl ?_
  refine so_aload_n (pc := 13) hX dX0_madeAt_13 0 rfl ?_
  refine so_aload_n (pc := 14) hX dX0_madeAt_14 2 rfl ?_
  refine so_gI (pc := 15) hX dX0_madeAt_15 fl_X0_87 (ekC hL rfl) ?_
  refine so_pI (pc := 18) hX dX0_madeAt_18 fl_X0_29 fw_0_10 (ekC hL ka0) rfl rfl ?_
  refine so_aload_n (pc := 21) hX dX0_madeAt_21 0 rfl ?_
  refine so_aload_n (pc := 22) hX dX0_madeAt_22 2 rfl ?_
  refine so_gI (pc := 23) hX dX0_madeAt_23 fl_X0_88 (ekC hL rfl) ?_
  refine so_pI (pc := 26) hX dX0_madeAt_26 fl_X0_32 fw_0_11 (ekC hL ka0) rfl rfl ?_
  exact so_vretH (pc := 29) hX hR h dX0_madeAt_29
set_option maxHeartbeats 4000000 in
set_option maxRecDepth 100000 in
theorem c_X1_count {l : Launch} {V : Ev} (hL : V.2.2.2 = lyC) {a0 : Nat} (ka0 : kdC a0 = 1) {μ : Mem} {rZ : Int32} {μZ : Mem} (h : f_X1_count a0 μ = some (rZ, μZ)) : CT l V yX1_count cX1_count 1 (some .int) 0 [.ref (evA V a0)] μ μZ (some (.int rZ)) := by
  refine so_met [(0, .ref (evA V a0))] (by decide) (Nat.le_of_ble_eq_true rfl) (evCn hL) rfl ?_
  intro X hl hV hn hX hR
  subst hl hV
  unfold f_X1_count at h
  refine so_aload_n (pc := 0) hX dX1_count_0 0 rfl ?_
  refine so_gI (pc := 1) hX dX1_count_1 fl_X1_15 (ekC hL ka0) ?_
  refine so_aload_n (pc := 4) hX dX1_count_4 0 rfl ?_
  refine so_gI (pc := 5) hX dX1_count_5 fl_X1_19 (ekC hL ka0) ?_
  refine so_imul (pc := 8) hX dX1_count_8 ?_
  exact so_iretH (pc := 9) hX hR h rfl dX1_count_9
set_option maxHeartbeats 4000000 in
set_option maxRecDepth 100000 in
theorem c_X9_isFrom {l : Launch} {V : Ev} (hL : V.2.2.2 = lyC) {v0 : Int32} {v1 : Int32} {v2 : Int32}  {μ : Mem} {rZ : Int32} {μZ : Mem} (h : f_X9_isFrom v0 v1 v2 μ = some (rZ, μZ)) : CT l V yX9_isFrom cX9_isFrom 3 (some .boolean) 0 [.int v0, .int v1, .int v2] μ μZ (some (.int rZ)) := by
  refine so_met [(0, .int v0), (1, .int v1), (2, .int v2)] (by decide) (Nat.le_of_ble_eq_true rfl) (evCn hL) rfl ?_
  intro X hl hV hn hX hR
  subst hl hV
  unfold f_X9_isFrom at h
  refine so_iload_n (pc := 0) hX dX9_isFrom_0 1 rfl ?_
  refine so_iload_n (pc := 1) hX dX9_isFrom_1 0 rfl ?_
  refine so_icmp_gt (pc := 2) hX 14 dX9_isFrom_2 (by decide) (fun hc1 => ?_) (fun hc1 => ?_)
  · have h := ip hc1 h
    refine so_iconst (v := (0 : Int32)) (pc := 14) hX dX9_isFrom_14 (by decide) ?_
    exact so_iretH (pc := 15) hX hR h (by decide) dX9_isFrom_15
  · have h := iq hc1 h
    refine so_iload_n (pc := 5) hX dX9_isFrom_5 0 rfl ?_
    refine so_iload_n (pc := 6) hX dX9_isFrom_6 2 rfl ?_
    refine so_icmp_gt (pc := 7) hX 14 dX9_isFrom_7 (by decide) (fun hc2 => ?_) (fun hc2 => ?_)
    · have h := ip hc2 h
      refine so_iconst (v := (0 : Int32)) (pc := 14) hX dX9_isFrom_14 (by decide) ?_
      exact so_iretH (pc := 15) hX hR h (by decide) dX9_isFrom_15
    · have h := iq hc2 h
      refine so_iconst (v := (1 : Int32)) (pc := 10) hX dX9_isFrom_10 (by decide) ?_
      refine so_goto (pc := 11) hX 15 dX9_isFrom_11 (by decide) ?_
      exact so_iretH (pc := 15) hX hR h (by decide) dX9_isFrom_15
set_option maxHeartbeats 4000000 in
set_option maxRecDepth 100000 in
theorem c_X1_has {l : Launch} {V : Ev} (hL : V.2.2.2 = lyC) {a0 : Nat} {v1 : Int32} {v2 : Int32} (ka0 : kdC a0 = 1) {μ : Mem} {rZ : Int32} {μZ : Mem} (h : f_X1_has a0 v1 v2 μ = some (rZ, μZ)) : CT l V yX1_has cX1_has 3 (some .boolean) 1 [.ref (evA V a0), .int v1, .int v2] μ μZ (some (.int rZ)) := by
  refine so_met [(0, .ref (evA V a0)), (1, .int v1), (2, .int v2)] (by decide) (Nat.le_of_ble_eq_true rfl) (evCn hL) rfl ?_
  intro X hl hV hn hX hR
  subst hl hV
  unfold f_X1_has at h
  refine so_iload_n (pc := 0) hX dX1_has_0 1 rfl ?_
  refine so_iconst (v := (0 : Int32)) (pc := 1) hX dX1_has_1 (by decide) ?_
  refine so_aload_n (pc := 2) hX dX1_has_2 0 rfl ?_
  refine so_gI (pc := 3) hX dX1_has_3 fl_X1_15 (ekC hL ka0) ?_
  refine so_iconst (v := (1 : Int32)) (pc := 6) hX dX1_has_6 (by decide) ?_
  refine so_isub (pc := 7) hX dX1_has_7 ?_
  obtain ⟨r2, μ1, hr, h⟩ := obd h
  refine so_callSN (As := [.int v1, .int (0 : Int32), .int ((μ.1 a0 1) - (1 : Int32))]) (rest := []) (pc := 8) hX dX1_has_8 (c_X9_isFrom hL hr) mw_X9_isFrom ms_X9_isFrom ml_X1_22 rfl rfl (by omega) (by decide) (Nat.le_of_ble_eq_true rfl) ?_
  refine so_if_eq (pc := 11) hX 32 dX1_has_11 (by decide) (fun hc3 => ?_) (fun hc3 => ?_)
  · have h := ip hc3 h
    refine so_iconst (v := (0 : Int32)) (pc := 32) hX dX1_has_32 (by decide) ?_
    exact so_iretH (pc := 33) hX hR h (by decide) dX1_has_33
  · have h := iq hc3 h
    refine so_iload_n (pc := 14) hX dX1_has_14 2 rfl ?_
    refine so_iconst (v := (0 : Int32)) (pc := 15) hX dX1_has_15 (by decide) ?_
    refine so_aload_n (pc := 16) hX dX1_has_16 0 rfl ?_
    refine so_gI (pc := 17) hX dX1_has_17 fl_X1_19 (ekC hL ka0) ?_
    refine so_iconst (v := (1 : Int32)) (pc := 20) hX dX1_has_20 (by decide) ?_
    refine so_isub (pc := 21) hX dX1_has_21 ?_
    obtain ⟨r5, μ4, hr, h⟩ := obd h
    refine so_callSN (As := [.int v2, .int (0 : Int32), .int ((μ1.1 a0 2) - (1 : Int32))]) (rest := []) (pc := 22) hX dX1_has_22 (c_X9_isFrom hL hr) mw_X9_isFrom ms_X9_isFrom ml_X1_22 rfl rfl (by omega) (by decide) (Nat.le_of_ble_eq_true rfl) ?_
    refine so_if_eq (pc := 25) hX 32 dX1_has_25 (by decide) (fun hc6 => ?_) (fun hc6 => ?_)
    · have h := ip hc6 h
      refine so_iconst (v := (0 : Int32)) (pc := 32) hX dX1_has_32 (by decide) ?_
      exact so_iretH (pc := 33) hX hR h (by decide) dX1_has_33
    · have h := iq hc6 h
      refine so_iconst (v := (1 : Int32)) (pc := 28) hX dX1_has_28 (by decide) ?_
      refine so_goto (pc := 29) hX 33 dX1_has_29 (by decide) ?_
      exact so_iretH (pc := 33) hX hR h (by decide) dX1_has_33
set_option maxHeartbeats 4000000 in
set_option maxRecDepth 100000 in
theorem c_X1_setCell {l : Launch} {V : Ev} (hL : V.2.2.2 = lyC) {a0 : Nat} {v1 : Int32} {v2 : Int32} {v3 : Int32} (ka0 : kdC a0 = 1) {μ : Mem} {μZ : Mem} (h : f_X1_setCell a0 v1 v2 v3 μ = some μZ) : CT l V yX1_setCell cX1_setCell 4 none 0 [.ref (evA V a0), .int v1, .int v2, .int v3] μ μZ none := by
  refine so_met [(0, .ref (evA V a0)), (1, .int v1), (2, .int v2), (3, .int v3)] (by decide) (Nat.le_of_ble_eq_true rfl) (evCn hL) rfl ?_
  intro X hl hV hn hX hR
  subst hl hV
  unfold f_X1_setCell at h
  refine so_iconst (v := (0 : Int32)) (pc := 0) hX dX1_setCell_0 (by decide) ?_
  refine so_iload_n (pc := 1) hX dX1_setCell_1 1 rfl ?_
  refine so_icmp_gt (pc := 2) hX 34 dX1_setCell_2 (by decide) (fun hc1 => ?_) (fun hc1 => ?_)
  · have h := ip hc1 h
    exact so_vretH (pc := 34) hX hR h dX1_setCell_34
  · have h := iq hc1 h
    refine so_iload_n (pc := 5) hX dX1_setCell_5 1 rfl ?_
    refine so_bipush (v := (8 : Int32)) (pc := 6) hX dX1_setCell_6 (by decide) ?_
    refine so_icmp_ge (pc := 8) hX 34 dX1_setCell_8 (by decide) (fun hc2 => ?_) (fun hc2 => ?_)
    · have h := ip hc2 h
      exact so_vretH (pc := 34) hX hR h dX1_setCell_34
    · have h := iq hc2 h
      refine so_iconst (v := (0 : Int32)) (pc := 11) hX dX1_setCell_11 (by decide) ?_
      refine so_iload_n (pc := 12) hX dX1_setCell_12 2 rfl ?_
      refine so_icmp_gt (pc := 13) hX 34 dX1_setCell_13 (by decide) (fun hc3 => ?_) (fun hc3 => ?_)
      · have h := ip hc3 h
        exact so_vretH (pc := 34) hX hR h dX1_setCell_34
      · have h := iq hc3 h
        refine so_iload_n (pc := 16) hX dX1_setCell_16 2 rfl ?_
        refine so_bipush (v := (8 : Int32)) (pc := 17) hX dX1_setCell_17 (by decide) ?_
        refine so_icmp_ge (pc := 19) hX 34 dX1_setCell_19 (by decide) (fun hc4 => ?_) (fun hc4 => ?_)
        · have h := ip hc4 h
          exact so_vretH (pc := 34) hX hR h dX1_setCell_34
        · have h := iq hc4 h
          refine so_aload_n (pc := 22) hX dX1_setCell_22 0 rfl ?_
          refine so_gR (pc := 23) hX (a0 + 1) dX1_setCell_23 fl_X1_11 (ekC hL ka0) (erC hL (rq_1_0 ka0)) ?_
          refine so_iload_n (pc := 26) hX dX1_setCell_26 2 rfl ?_
          refine so_bipush (v := (8 : Int32)) (pc := 27) hX dX1_setCell_27 (by decide) ?_
          refine so_imul (pc := 29) hX dX1_setCell_29 ?_
          refine so_iload_n (pc := 30) hX dX1_setCell_30 1 rfl ?_
          refine so_iadd (pc := 31) hX dX1_setCell_31 ?_
          refine so_iload_n (pc := 32) hX dX1_setCell_32 3 rfl ?_
          obtain ⟨μ5, hr, h⟩ := ob h
          refine so_iast (pc := 33) hX dX1_setCell_33 (ekC hL (kq_1_0 ka0)) (elC hL (nq_1_0 ka0)) hr ?_
          exact so_vretH (pc := 34) hX hR h dX1_setCell_34
set_option maxHeartbeats 4000000 in
set_option maxRecDepth 100000 in
theorem g_X1_changeSides_L22 {X : Cx} (hX : Fx X cX1_changeSides RX1 1) (hL : (xV X).2.2.2 = lyC) (hn : xn X = 9) {μZ : Mem} (hR : Rt X none μZ none) {b0 : Nat} {v1 : Int32} {v2 : Int32} {v3 : Int32} {v4 : Int32} {v5 : Int32} (kb0 : kdC b0 = 1) {K : Mem → Option (Mem)} (hK : ∀  (μ : Mem), K μ = some μZ → Gd X 80 [(0, .ref (evA (xV X) b0)), (1, .int v1), (2, .int v2), (3, .int v3), (4, .int v4), (5, .int v5)] [] μ) : ∀ (n : Nat) (v6 : Int32) (v7 : Int32) (μ : Mem), f_X1_changeSides_L22 b0 v1 v2 v3 v4 v5 K n v6 v7 μ = some μZ → Gd X 22 [(0, .ref (evA (xV X) b0)), (1, .int v1), (2, .int v2), (3, .int v3), (4, .int v4), (5, .int v5), (6, .int v6), (7, .int v7)] [] μ := by
  intro n
  induction n with
  | zero => intro _ _ _ h; rw [f_X1_changeSides_L22] at h; cases h
  | succ n ih =>
    intro v6 v7 μ h
    rw [f_X1_changeSides_L22] at h
    refine so_iload (pc := 22) hX dX1_changeSides_22 6 rfl ?_
    refine so_iload (pc := 24) hX dX1_changeSides_24 7 rfl ?_
    refine so_icmp_gt (pc := 26) hX 80 dX1_changeSides_26 (by decide) (fun hc2 => ?_) (fun hc2 => ?_)
    · have h := ip hc2 h
      refine so_sub (pc := 80) (lv' := [(0, .ref (evA (xV X) b0)), (1, .int v1), (2, .int v2), (3, .int v3), (4, .int v4), (5, .int v5)]) [0, 1, 2, 3, 4, 5] rfl ?_
      exact hK _ h
    · have h := iq hc2 h
      refine so_aload_n (pc := 29) hX dX1_changeSides_29 0 rfl ?_
      refine so_iload (pc := 30) hX dX1_changeSides_30 6 rfl ?_
      refine so_iload (pc := 32) hX dX1_changeSides_32 5 rfl ?_
      obtain ⟨r4, μ3, hr, h⟩ := obd h
      refine so_callV (As := [.int v6, .int v5]) (rest := []) (pc := 34) hX dX1_changeSides_34 (c_X1_cellAt hL kb0 hr) mw_X1_cellAt mv_X1_cellAt ml_X1_26 (ekC hL kb0) (by decide) rfl rfl rfl rfl (by omega) (by decide) (Nat.le_of_ble_eq_true rfl) ?_
      refine so_istore (pc := 37) hX dX1_changeSides_37 [(8, .int r4), (0, .ref (evA (xV X) b0)), (1, .int v1), (2, .int v2), (3, .int v3), (4, .int v4), (5, .int v5), (6, .int v6), (7, .int v7)] (by rw [hn]; decide) rfl ?_
      refine so_aload_n (pc := 39) hX dX1_changeSides_39 1 rfl ?_
      refine so_iload (pc := 40) hX dX1_changeSides_40 7 rfl ?_
      refine so_iload (pc := 42) hX dX1_changeSides_42 6 rfl ?_
      refine so_aload_n (pc := 44) hX dX1_changeSides_44 1 rfl ?_
      refine so_iload (pc := 45) hX dX1_changeSides_45 8 rfl ?_
      refine so_iload (pc := 47) hX dX1_changeSides_47 6 rfl ?_
      obtain ⟨r6, μ5, hr, h⟩ := obd h
      refine so_callV (As := [.int v7, .int v5]) (rest := [.int v5, .int v6, .ref (evA (xV X) b0)]) (pc := 49) hX dX1_changeSides_49 (c_X1_cellAt hL kb0 hr) mw_X1_cellAt mv_X1_cellAt ml_X1_26 (ekC hL kb0) (by decide) rfl rfl rfl rfl (by omega) (by decide) (Nat.le_of_ble_eq_true rfl) ?_
      refine so_bipush (v := (16 : Int32)) (pc := 52) hX dX1_changeSides_52 (by decide) ?_
      refine so_ixor (pc := 54) hX dX1_changeSides_54 ?_
      obtain ⟨μ7, hr, h⟩ := ob h
      refine so_callV (As := [.int v6, .int v5, .int (r6 ^^^ (16 : Int32))]) (rest := []) (pc := 55) hX dX1_changeSides_55 (c_X1_setCell hL kb0 hr) mw_X1_setCell mv_X1_setCell ml_X1_41 (ekC hL kb0) (by decide) rfl rfl rfl rfl (by omega) (by decide) (Nat.le_of_ble_eq_true rfl) ?_
      refine so_aload_n (pc := 58) hX dX1_changeSides_58 1 rfl ?_
      refine so_iload (pc := 59) hX dX1_changeSides_59 8 rfl ?_
      refine so_iload (pc := 61) hX dX1_changeSides_61 6 rfl ?_
      refine so_iload (pc := 63) hX dX1_changeSides_63 0 rfl ?_
      refine so_bipush (v := (16 : Int32)) (pc := 65) hX dX1_changeSides_65 (by decide) ?_
      refine so_ixor (pc := 67) hX dX1_changeSides_67 ?_
      obtain ⟨μ8, hr, h⟩ := ob h
      refine so_callV (As := [.int v7, .int v5, .int (r4 ^^^ (16 : Int32))]) (rest := []) (pc := 68) hX dX1_changeSides_68 (c_X1_setCell hL kb0 hr) mw_X1_setCell mv_X1_setCell ml_X1_41 (ekC hL kb0) (by decide) rfl rfl rfl rfl (by omega) (by decide) (Nat.le_of_ble_eq_true rfl) ?_
      refine so_iinc (pc := 71) hX dX1_changeSides_71 7 (1 : Int32) [(6, .int (v6 + (1 : Int32))), (8, .int r4), (0, .ref (evA (xV X) b0)), (1, .int v1), (2, .int v2), (3, .int v3), (4, .int v4), (5, .int v5), (7, .int v7)] rfl (by decide) (by rw [hn]; decide) rfl ?_
      refine so_iinc (pc := 74) hX dX1_changeSides_74 8 (-1 : Int32) [(7, .int (v7 + (-1 : Int32))), (6, .int (v6 + (1 : Int32))), (8, .int r4), (0, .ref (evA (xV X) b0)), (1, .int v1), (2, .int v2), (3, .int v3), (4, .int v4), (5, .int v5)] rfl (by decide) (by rw [hn]; decide) rfl ?_
      refine so_goto (pc := 77) hX 22 dX1_changeSides_77 (by decide) ?_
      refine so_sub (pc := 22) (lv' := [(0, .ref (evA (xV X) b0)), (1, .int v1), (2, .int v2), (3, .int v3), (4, .int v4), (5, .int v5), (6, .int (v6 + (1 : Int32))), (7, .int (v7 + (-1 : Int32)))]) [3, 4, 5, 6, 7, 8, 1, 0] rfl ?_
      exact ih _ _ _ h
set_option maxHeartbeats 4000000 in
set_option maxRecDepth 100000 in
theorem g_X1_changeSides_L3 {X : Cx} (hX : Fx X cX1_changeSides RX1 1) (hL : (xV X).2.2.2 = lyC) (hn : xn X = 9) {μZ : Mem} (hR : Rt X none μZ none) {b0 : Nat} {v1 : Int32} {v2 : Int32} {v3 : Int32} {v4 : Int32} (kb0 : kdC b0 = 1) {K : Mem → Option (Mem)} (hK : ∀  (μ : Mem), K μ = some μZ → Gd X 86 [] [] μ) : ∀ (n : Nat) (v5 : Int32) (μ : Mem), f_X1_changeSides_L3 b0 v1 v2 v3 v4 K n v5 μ = some μZ → Gd X 3 [(0, .ref (evA (xV X) b0)), (1, .int v1), (2, .int v2), (3, .int v3), (4, .int v4), (5, .int v5)] [] μ := by
  intro n
  induction n with
  | zero => intro _ _ h; rw [f_X1_changeSides_L3] at h; cases h
  | succ n ih =>
    intro v5 μ h
    rw [f_X1_changeSides_L3] at h
    refine so_iload (pc := 3) hX dX1_changeSides_3 5 rfl ?_
    refine so_iload_n (pc := 5) hX dX1_changeSides_5 2 rfl ?_
    refine so_iload (pc := 6) hX dX1_changeSides_6 4 rfl ?_
    refine so_iadd (pc := 8) hX dX1_changeSides_8 ?_
    refine so_icmp_ge (pc := 9) hX 86 dX1_changeSides_9 (by decide) (fun hc1 => ?_) (fun hc1 => ?_)
    · have h := ip hc1 h
      refine so_sub (pc := 86) (lv' := []) [] rfl ?_
      exact hK _ h
    · have h := iq hc1 h
      refine so_iload_n (pc := 12) hX dX1_changeSides_12 1 rfl ?_
      refine so_istore (pc := 13) hX dX1_changeSides_13 [(6, .int v1), (0, .ref (evA (xV X) b0)), (1, .int v1), (2, .int v2), (3, .int v3), (4, .int v4), (5, .int v5)] (by rw [hn]; decide) rfl ?_
      refine so_iload_n (pc := 15) hX dX1_changeSides_15 2 rfl ?_
      refine so_iload_n (pc := 16) hX dX1_changeSides_16 4 rfl ?_
      refine so_iadd (pc := 17) hX dX1_changeSides_17 ?_
      refine so_iconst (v := (1 : Int32)) (pc := 18) hX dX1_changeSides_18 (by decide) ?_
      refine so_isub (pc := 19) hX dX1_changeSides_19 ?_
      refine so_istore (pc := 20) hX dX1_changeSides_20 [(7, .int ((v1 + v3) - (1 : Int32))), (6, .int v1), (0, .ref (evA (xV X) b0)), (1, .int v1), (2, .int v2), (3, .int v3), (4, .int v4), (5, .int v5)] (by rw [hn]; decide) rfl ?_
      refine so_sub (pc := 22) (lv' := [(0, .ref (evA (xV X) b0)), (1, .int v1), (2, .int v2), (3, .int v3), (4, .int v4), (5, .int v5), (6, .int v1), (7, .int ((v1 + v3) - (1 : Int32)))]) [2, 3, 4, 5, 6, 7, 1, 0] rfl ?_
      refine g_X1_changeSides_L22 hX hL hn hR kb0 (fun μ9 h => ?_) FU _ _ _ h
      refine so_iinc (pc := 80) hX dX1_changeSides_80 5 (1 : Int32) [(5, .int (v5 + (1 : Int32))), (0, .ref (evA (xV X) b0)), (1, .int v1), (2, .int v2), (3, .int v3), (4, .int v4)] rfl (by decide) (by rw [hn]; decide) rfl ?_
      refine so_goto (pc := 83) hX 3 dX1_changeSides_83 (by decide) ?_
      refine so_sub (pc := 3) (lv' := [(0, .ref (evA (xV X) b0)), (1, .int v1), (2, .int v2), (3, .int v3), (4, .int v4), (5, .int (v5 + (1 : Int32)))]) [1, 2, 3, 4, 5, 0] rfl ?_
      exact ih _ _ h
set_option maxHeartbeats 4000000 in
set_option maxRecDepth 100000 in
theorem c_X1_changeSides {l : Launch} {V : Ev} (hL : V.2.2.2 = lyC) {a0 : Nat} {v1 : Int32} {v2 : Int32} {v3 : Int32} {v4 : Int32} (ka0 : kdC a0 = 1) {μ : Mem} {μZ : Mem} (h : f_X1_changeSides a0 v1 v2 v3 v4 μ = some μZ) : CT l V yX1_changeSides cX1_changeSides 9 none 1 [.ref (evA V a0), .int v1, .int v2, .int v3, .int v4] μ μZ none := by
  refine so_met [(0, .ref (evA V a0)), (1, .int v1), (2, .int v2), (3, .int v3), (4, .int v4)] (by decide) (Nat.le_of_ble_eq_true rfl) (evCn hL) rfl ?_
  intro X hl hV hn hX hR
  subst hl hV
  unfold f_X1_changeSides at h
  refine so_iload_n (pc := 0) hX dX1_changeSides_0 2 rfl ?_
  refine so_istore (pc := 1) hX dX1_changeSides_1 [(5, .int v2), (0, .ref (evA (xV X) a0)), (1, .int v1), (2, .int v2), (3, .int v3), (4, .int v4)] (by rw [hn]; decide) rfl ?_
  refine so_sub (pc := 3) (lv' := [(0, .ref (evA (xV X) a0)), (1, .int v1), (2, .int v2), (3, .int v3), (4, .int v4), (5, .int v2)]) [1, 2, 3, 4, 5, 0] rfl ?_
  refine g_X1_changeSides_L3 hX hL hn hR ka0 (fun μ10 h => ?_) FU _ _ h
  exact so_vretH (pc := 86) hX hR h dX1_changeSides_86
set_option maxHeartbeats 4000000 in
set_option maxRecDepth 100000 in
theorem g_X1_changeEnds_L22 {X : Cx} (hX : Fx X cX1_changeEnds RX1 1) (hL : (xV X).2.2.2 = lyC) (hn : xn X = 9) {μZ : Mem} (hR : Rt X none μZ none) {b0 : Nat} {v1 : Int32} {v2 : Int32} {v3 : Int32} {v4 : Int32} {v5 : Int32} (kb0 : kdC b0 = 1) {K : Mem → Option (Mem)} (hK : ∀  (μ : Mem), K μ = some μZ → Gd X 80 [(0, .ref (evA (xV X) b0)), (1, .int v1), (2, .int v2), (3, .int v3), (4, .int v4), (5, .int v5)] [] μ) : ∀ (n : Nat) (v6 : Int32) (v7 : Int32) (μ : Mem), f_X1_changeEnds_L22 b0 v1 v2 v3 v4 v5 K n v6 v7 μ = some μZ → Gd X 22 [(0, .ref (evA (xV X) b0)), (1, .int v1), (2, .int v2), (3, .int v3), (4, .int v4), (5, .int v5), (6, .int v6), (7, .int v7)] [] μ := by
  intro n
  induction n with
  | zero => intro _ _ _ h; rw [f_X1_changeEnds_L22] at h; cases h
  | succ n ih =>
    intro v6 v7 μ h
    rw [f_X1_changeEnds_L22] at h
    refine so_iload (pc := 22) hX dX1_changeEnds_22 6 rfl ?_
    refine so_iload (pc := 24) hX dX1_changeEnds_24 7 rfl ?_
    refine so_icmp_gt (pc := 26) hX 80 dX1_changeEnds_26 (by decide) (fun hc2 => ?_) (fun hc2 => ?_)
    · have h := ip hc2 h
      refine so_sub (pc := 80) (lv' := [(0, .ref (evA (xV X) b0)), (1, .int v1), (2, .int v2), (3, .int v3), (4, .int v4), (5, .int v5)]) [0, 1, 2, 3, 4, 5] rfl ?_
      exact hK _ h
    · have h := iq hc2 h
      refine so_aload_n (pc := 29) hX dX1_changeEnds_29 0 rfl ?_
      refine so_iload (pc := 30) hX dX1_changeEnds_30 5 rfl ?_
      refine so_iload (pc := 32) hX dX1_changeEnds_32 6 rfl ?_
      obtain ⟨r4, μ3, hr, h⟩ := obd h
      refine so_callV (As := [.int v5, .int v6]) (rest := []) (pc := 34) hX dX1_changeEnds_34 (c_X1_cellAt hL kb0 hr) mw_X1_cellAt mv_X1_cellAt ml_X1_26 (ekC hL kb0) (by decide) rfl rfl rfl rfl (by omega) (by decide) (Nat.le_of_ble_eq_true rfl) ?_
      refine so_istore (pc := 37) hX dX1_changeEnds_37 [(8, .int r4), (0, .ref (evA (xV X) b0)), (1, .int v1), (2, .int v2), (3, .int v3), (4, .int v4), (5, .int v5), (6, .int v6), (7, .int v7)] (by rw [hn]; decide) rfl ?_
      refine so_aload_n (pc := 39) hX dX1_changeEnds_39 1 rfl ?_
      refine so_iload (pc := 40) hX dX1_changeEnds_40 6 rfl ?_
      refine so_iload (pc := 42) hX dX1_changeEnds_42 7 rfl ?_
      refine so_aload_n (pc := 44) hX dX1_changeEnds_44 1 rfl ?_
      refine so_iload (pc := 45) hX dX1_changeEnds_45 6 rfl ?_
      refine so_iload (pc := 47) hX dX1_changeEnds_47 8 rfl ?_
      obtain ⟨r6, μ5, hr, h⟩ := obd h
      refine so_callV (As := [.int v5, .int v7]) (rest := [.int v6, .int v5, .ref (evA (xV X) b0)]) (pc := 49) hX dX1_changeEnds_49 (c_X1_cellAt hL kb0 hr) mw_X1_cellAt mv_X1_cellAt ml_X1_26 (ekC hL kb0) (by decide) rfl rfl rfl rfl (by omega) (by decide) (Nat.le_of_ble_eq_true rfl) ?_
      refine so_bipush (v := (32 : Int32)) (pc := 52) hX dX1_changeEnds_52 (by decide) ?_
      refine so_ixor (pc := 54) hX dX1_changeEnds_54 ?_
      obtain ⟨μ7, hr, h⟩ := ob h
      refine so_callV (As := [.int v5, .int v6, .int (r6 ^^^ (32 : Int32))]) (rest := []) (pc := 55) hX dX1_changeEnds_55 (c_X1_setCell hL kb0 hr) mw_X1_setCell mv_X1_setCell ml_X1_41 (ekC hL kb0) (by decide) rfl rfl rfl rfl (by omega) (by decide) (Nat.le_of_ble_eq_true rfl) ?_
      refine so_aload_n (pc := 58) hX dX1_changeEnds_58 1 rfl ?_
      refine so_iload (pc := 59) hX dX1_changeEnds_59 6 rfl ?_
      refine so_iload (pc := 61) hX dX1_changeEnds_61 8 rfl ?_
      refine so_iload (pc := 63) hX dX1_changeEnds_63 0 rfl ?_
      refine so_bipush (v := (32 : Int32)) (pc := 65) hX dX1_changeEnds_65 (by decide) ?_
      refine so_ixor (pc := 67) hX dX1_changeEnds_67 ?_
      obtain ⟨μ8, hr, h⟩ := ob h
      refine so_callV (As := [.int v5, .int v7, .int (r4 ^^^ (32 : Int32))]) (rest := []) (pc := 68) hX dX1_changeEnds_68 (c_X1_setCell hL kb0 hr) mw_X1_setCell mv_X1_setCell ml_X1_41 (ekC hL kb0) (by decide) rfl rfl rfl rfl (by omega) (by decide) (Nat.le_of_ble_eq_true rfl) ?_
      refine so_iinc (pc := 71) hX dX1_changeEnds_71 7 (1 : Int32) [(6, .int (v6 + (1 : Int32))), (8, .int r4), (0, .ref (evA (xV X) b0)), (1, .int v1), (2, .int v2), (3, .int v3), (4, .int v4), (5, .int v5), (7, .int v7)] rfl (by decide) (by rw [hn]; decide) rfl ?_
      refine so_iinc (pc := 74) hX dX1_changeEnds_74 8 (-1 : Int32) [(7, .int (v7 + (-1 : Int32))), (6, .int (v6 + (1 : Int32))), (8, .int r4), (0, .ref (evA (xV X) b0)), (1, .int v1), (2, .int v2), (3, .int v3), (4, .int v4), (5, .int v5)] rfl (by decide) (by rw [hn]; decide) rfl ?_
      refine so_goto (pc := 77) hX 22 dX1_changeEnds_77 (by decide) ?_
      refine so_sub (pc := 22) (lv' := [(0, .ref (evA (xV X) b0)), (1, .int v1), (2, .int v2), (3, .int v3), (4, .int v4), (5, .int v5), (6, .int (v6 + (1 : Int32))), (7, .int (v7 + (-1 : Int32)))]) [3, 4, 5, 6, 7, 8, 1, 0] rfl ?_
      exact ih _ _ _ h
set_option maxHeartbeats 4000000 in
set_option maxRecDepth 100000 in
theorem g_X1_changeEnds_L3 {X : Cx} (hX : Fx X cX1_changeEnds RX1 1) (hL : (xV X).2.2.2 = lyC) (hn : xn X = 9) {μZ : Mem} (hR : Rt X none μZ none) {b0 : Nat} {v1 : Int32} {v2 : Int32} {v3 : Int32} {v4 : Int32} (kb0 : kdC b0 = 1) {K : Mem → Option (Mem)} (hK : ∀  (μ : Mem), K μ = some μZ → Gd X 86 [] [] μ) : ∀ (n : Nat) (v5 : Int32) (μ : Mem), f_X1_changeEnds_L3 b0 v1 v2 v3 v4 K n v5 μ = some μZ → Gd X 3 [(0, .ref (evA (xV X) b0)), (1, .int v1), (2, .int v2), (3, .int v3), (4, .int v4), (5, .int v5)] [] μ := by
  intro n
  induction n with
  | zero => intro _ _ h; rw [f_X1_changeEnds_L3] at h; cases h
  | succ n ih =>
    intro v5 μ h
    rw [f_X1_changeEnds_L3] at h
    refine so_iload (pc := 3) hX dX1_changeEnds_3 5 rfl ?_
    refine so_iload_n (pc := 5) hX dX1_changeEnds_5 1 rfl ?_
    refine so_iload_n (pc := 6) hX dX1_changeEnds_6 3 rfl ?_
    refine so_iadd (pc := 7) hX dX1_changeEnds_7 ?_
    refine so_icmp_ge (pc := 8) hX 86 dX1_changeEnds_8 (by decide) (fun hc1 => ?_) (fun hc1 => ?_)
    · have h := ip hc1 h
      refine so_sub (pc := 86) (lv' := []) [] rfl ?_
      exact hK _ h
    · have h := iq hc1 h
      refine so_iload_n (pc := 11) hX dX1_changeEnds_11 2 rfl ?_
      refine so_istore (pc := 12) hX dX1_changeEnds_12 [(6, .int v2), (0, .ref (evA (xV X) b0)), (1, .int v1), (2, .int v2), (3, .int v3), (4, .int v4), (5, .int v5)] (by rw [hn]; decide) rfl ?_
      refine so_iload_n (pc := 14) hX dX1_changeEnds_14 3 rfl ?_
      refine so_iload (pc := 15) hX dX1_changeEnds_15 5 rfl ?_
      refine so_iadd (pc := 17) hX dX1_changeEnds_17 ?_
      refine so_iconst (v := (1 : Int32)) (pc := 18) hX dX1_changeEnds_18 (by decide) ?_
      refine so_isub (pc := 19) hX dX1_changeEnds_19 ?_
      refine so_istore (pc := 20) hX dX1_changeEnds_20 [(7, .int ((v2 + v4) - (1 : Int32))), (6, .int v2), (0, .ref (evA (xV X) b0)), (1, .int v1), (2, .int v2), (3, .int v3), (4, .int v4), (5, .int v5)] (by rw [hn]; decide) rfl ?_
      refine so_sub (pc := 22) (lv' := [(0, .ref (evA (xV X) b0)), (1, .int v1), (2, .int v2), (3, .int v3), (4, .int v4), (5, .int v5), (6, .int v2), (7, .int ((v2 + v4) - (1 : Int32)))]) [2, 3, 4, 5, 6, 7, 1, 0] rfl ?_
      refine g_X1_changeEnds_L22 hX hL hn hR kb0 (fun μ9 h => ?_) FU _ _ _ h
      refine so_iinc (pc := 80) hX dX1_changeEnds_80 5 (1 : Int32) [(5, .int (v5 + (1 : Int32))), (0, .ref (evA (xV X) b0)), (1, .int v1), (2, .int v2), (3, .int v3), (4, .int v4)] rfl (by decide) (by rw [hn]; decide) rfl ?_
      refine so_goto (pc := 83) hX 3 dX1_changeEnds_83 (by decide) ?_
      refine so_sub (pc := 3) (lv' := [(0, .ref (evA (xV X) b0)), (1, .int v1), (2, .int v2), (3, .int v3), (4, .int v4), (5, .int (v5 + (1 : Int32)))]) [1, 2, 3, 4, 5, 0] rfl ?_
      exact ih _ _ h
set_option maxHeartbeats 4000000 in
set_option maxRecDepth 100000 in
theorem c_X1_changeEnds {l : Launch} {V : Ev} (hL : V.2.2.2 = lyC) {a0 : Nat} {v1 : Int32} {v2 : Int32} {v3 : Int32} {v4 : Int32} (ka0 : kdC a0 = 1) {μ : Mem} {μZ : Mem} (h : f_X1_changeEnds a0 v1 v2 v3 v4 μ = some μZ) : CT l V yX1_changeEnds cX1_changeEnds 9 none 1 [.ref (evA V a0), .int v1, .int v2, .int v3, .int v4] μ μZ none := by
  refine so_met [(0, .ref (evA V a0)), (1, .int v1), (2, .int v2), (3, .int v3), (4, .int v4)] (by decide) (Nat.le_of_ble_eq_true rfl) (evCn hL) rfl ?_
  intro X hl hV hn hX hR
  subst hl hV
  unfold f_X1_changeEnds at h
  refine so_iload_n (pc := 0) hX dX1_changeEnds_0 1 rfl ?_
  refine so_istore (pc := 1) hX dX1_changeEnds_1 [(5, .int v1), (0, .ref (evA (xV X) a0)), (1, .int v1), (2, .int v2), (3, .int v3), (4, .int v4)] (by rw [hn]; decide) rfl ?_
  refine so_sub (pc := 3) (lv' := [(0, .ref (evA (xV X) a0)), (1, .int v1), (2, .int v2), (3, .int v3), (4, .int v4), (5, .int v1)]) [1, 2, 3, 4, 5, 0] rfl ?_
  refine g_X1_changeEnds_L3 hX hL hn hR ka0 (fun μ10 h => ?_) FU _ _ h
  exact so_vretH (pc := 86) hX hR h dX1_changeEnds_86
set_option maxHeartbeats 4000000 in
set_option maxRecDepth 100000 in
theorem g_X1_repeat_L17 {X : Cx} (hX : Fx X cX1_repeat RX1 1) (hL : (xV X).2.2.2 = lyC) (hn : xn X = 8) {μZ : Mem} (hR : Rt X none μZ none) {b0 : Nat} {v1 : Int32} {v2 : Int32} {v3 : Int32} {v4 : Int32} {v5 : Int32} {v6 : Int32} (kb0 : kdC b0 = 1) {K : Mem → Option (Mem)} (hK : ∀  (μ : Mem), K μ = some μZ → Gd X 52 [(0, .ref (evA (xV X) b0)), (1, .int v1), (2, .int v2), (3, .int v3), (4, .int v4), (5, .int v5), (6, .int v6)] [] μ) : ∀ (n : Nat) (v7 : Int32) (μ : Mem), f_X1_repeat_L17 b0 v1 v2 v3 v4 v5 v6 K n v7 μ = some μZ → Gd X 17 [(0, .ref (evA (xV X) b0)), (1, .int v1), (2, .int v2), (3, .int v3), (4, .int v4), (5, .int v5), (6, .int v6), (7, .int v7)] [] μ := by
  intro n
  induction n with
  | zero => intro _ _ h; rw [f_X1_repeat_L17] at h; cases h
  | succ n ih =>
    intro v7 μ h
    rw [f_X1_repeat_L17] at h
    refine so_iload (pc := 17) hX dX1_repeat_17 7 rfl ?_
    refine so_iload_n (pc := 19) hX dX1_repeat_19 1 rfl ?_
    refine so_iload_n (pc := 20) hX dX1_repeat_20 3 rfl ?_
    refine so_iload (pc := 21) hX dX1_repeat_21 5 rfl ?_
    refine so_imul (pc := 23) hX dX1_repeat_23 ?_
    refine so_iadd (pc := 24) hX dX1_repeat_24 ?_
    refine so_icmp_ge (pc := 25) hX 52 dX1_repeat_25 (by decide) (fun hc2 => ?_) (fun hc2 => ?_)
    · have h := ip hc2 h
      refine so_sub (pc := 52) (lv' := [(0, .ref (evA (xV X) b0)), (1, .int v1), (2, .int v2), (3, .int v3), (4, .int v4), (5, .int v5), (6, .int v6)]) [0, 1, 2, 3, 4, 5, 6] rfl ?_
      exact hK _ h
    · have h := iq hc2 h
      refine so_aload_n (pc := 28) hX dX1_repeat_28 0 rfl ?_
      refine so_iload (pc := 29) hX dX1_repeat_29 7 rfl ?_
      refine so_iload (pc := 31) hX dX1_repeat_31 6 rfl ?_
      refine so_aload_n (pc := 33) hX dX1_repeat_33 0 rfl ?_
      refine so_iload (pc := 34) hX dX1_repeat_34 7 rfl ?_
      refine so_iload_n (pc := 36) hX dX1_repeat_36 3 rfl ?_
      refine so_isub (pc := 37) hX dX1_repeat_37 ?_
      refine so_iload (pc := 38) hX dX1_repeat_38 6 rfl ?_
      obtain ⟨r4, μ3, hr, h⟩ := obd h
      refine so_callV (As := [.int (v7 - v3), .int v6]) (rest := [.int v6, .int v7, .ref (evA (xV X) b0)]) (pc := 40) hX dX1_repeat_40 (c_X1_cellAt hL kb0 hr) mw_X1_cellAt mv_X1_cellAt ml_X1_26 (ekC hL kb0) (by decide) rfl rfl rfl rfl (by omega) (by decide) (Nat.le_of_ble_eq_true rfl) ?_
      obtain ⟨μ5, hr, h⟩ := ob h
      refine so_callV (As := [.int v7, .int v6, .int r4]) (rest := []) (pc := 43) hX dX1_repeat_43 (c_X1_setCell hL kb0 hr) mw_X1_setCell mv_X1_setCell ml_X1_41 (ekC hL kb0) (by decide) rfl rfl rfl rfl (by omega) (by decide) (Nat.le_of_ble_eq_true rfl) ?_
      refine so_iinc (pc := 46) hX dX1_repeat_46 7 (1 : Int32) [(7, .int (v7 + (1 : Int32))), (0, .ref (evA (xV X) b0)), (1, .int v1), (2, .int v2), (3, .int v3), (4, .int v4), (5, .int v5), (6, .int v6)] rfl (by decide) (by rw [hn]; decide) rfl ?_
      refine so_goto (pc := 49) hX 17 dX1_repeat_49 (by decide) ?_
      refine so_sub (pc := 17) (lv' := [(0, .ref (evA (xV X) b0)), (1, .int v1), (2, .int v2), (3, .int v3), (4, .int v4), (5, .int v5), (6, .int v6), (7, .int (v7 + (1 : Int32)))]) [1, 2, 3, 4, 5, 6, 7, 0] rfl ?_
      exact ih _ _ h
set_option maxHeartbeats 4000000 in
set_option maxRecDepth 100000 in
theorem g_X1_repeat_L3 {X : Cx} (hX : Fx X cX1_repeat RX1 1) (hL : (xV X).2.2.2 = lyC) (hn : xn X = 8) {μZ : Mem} (hR : Rt X none μZ none) {b0 : Nat} {v1 : Int32} {v2 : Int32} {v3 : Int32} {v4 : Int32} {v5 : Int32} (kb0 : kdC b0 = 1) {K : Mem → Option (Mem)} (hK : ∀  (μ : Mem), K μ = some μZ → Gd X 58 [] [] μ) : ∀ (n : Nat) (v6 : Int32) (μ : Mem), f_X1_repeat_L3 b0 v1 v2 v3 v4 v5 K n v6 μ = some μZ → Gd X 3 [(0, .ref (evA (xV X) b0)), (1, .int v1), (2, .int v2), (3, .int v3), (4, .int v4), (5, .int v5), (6, .int v6)] [] μ := by
  intro n
  induction n with
  | zero => intro _ _ h; rw [f_X1_repeat_L3] at h; cases h
  | succ n ih =>
    intro v6 μ h
    rw [f_X1_repeat_L3] at h
    refine so_iload (pc := 3) hX dX1_repeat_3 6 rfl ?_
    refine so_iload_n (pc := 5) hX dX1_repeat_5 2 rfl ?_
    refine so_iload (pc := 6) hX dX1_repeat_6 4 rfl ?_
    refine so_iadd (pc := 8) hX dX1_repeat_8 ?_
    refine so_icmp_ge (pc := 9) hX 58 dX1_repeat_9 (by decide) (fun hc1 => ?_) (fun hc1 => ?_)
    · have h := ip hc1 h
      refine so_sub (pc := 58) (lv' := []) [] rfl ?_
      exact hK _ h
    · have h := iq hc1 h
      refine so_iload_n (pc := 12) hX dX1_repeat_12 1 rfl ?_
      refine so_iload_n (pc := 13) hX dX1_repeat_13 3 rfl ?_
      refine so_iadd (pc := 14) hX dX1_repeat_14 ?_
      refine so_istore (pc := 15) hX dX1_repeat_15 [(7, .int (v1 + v3)), (0, .ref (evA (xV X) b0)), (1, .int v1), (2, .int v2), (3, .int v3), (4, .int v4), (5, .int v5), (6, .int v6)] (by rw [hn]; decide) rfl ?_
      refine so_sub (pc := 17) (lv' := [(0, .ref (evA (xV X) b0)), (1, .int v1), (2, .int v2), (3, .int v3), (4, .int v4), (5, .int v5), (6, .int v6), (7, .int (v1 + v3))]) [1, 2, 3, 4, 5, 6, 7, 0] rfl ?_
      refine g_X1_repeat_L17 hX hL hn hR kb0 (fun μ6 h => ?_) FU _ _ h
      refine so_iinc (pc := 52) hX dX1_repeat_52 6 (1 : Int32) [(6, .int (v6 + (1 : Int32))), (0, .ref (evA (xV X) b0)), (1, .int v1), (2, .int v2), (3, .int v3), (4, .int v4), (5, .int v5)] rfl (by decide) (by rw [hn]; decide) rfl ?_
      refine so_goto (pc := 55) hX 3 dX1_repeat_55 (by decide) ?_
      refine so_sub (pc := 3) (lv' := [(0, .ref (evA (xV X) b0)), (1, .int v1), (2, .int v2), (3, .int v3), (4, .int v4), (5, .int v5), (6, .int (v6 + (1 : Int32)))]) [1, 2, 3, 4, 5, 6, 0] rfl ?_
      exact ih _ _ h
set_option maxHeartbeats 4000000 in
set_option maxRecDepth 100000 in
theorem c_X1_repeat {l : Launch} {V : Ev} (hL : V.2.2.2 = lyC) {a0 : Nat} {v1 : Int32} {v2 : Int32} {v3 : Int32} {v4 : Int32} {v5 : Int32} (ka0 : kdC a0 = 1) {μ : Mem} {μZ : Mem} (h : f_X1_repeat a0 v1 v2 v3 v4 v5 μ = some μZ) : CT l V yX1_repeat cX1_repeat 8 none 1 [.ref (evA V a0), .int v1, .int v2, .int v3, .int v4, .int v5] μ μZ none := by
  refine so_met [(0, .ref (evA V a0)), (1, .int v1), (2, .int v2), (3, .int v3), (4, .int v4), (5, .int v5)] (by decide) (Nat.le_of_ble_eq_true rfl) (evCn hL) rfl ?_
  intro X hl hV hn hX hR
  subst hl hV
  unfold f_X1_repeat at h
  refine so_iload_n (pc := 0) hX dX1_repeat_0 2 rfl ?_
  refine so_istore (pc := 1) hX dX1_repeat_1 [(6, .int v2), (0, .ref (evA (xV X) a0)), (1, .int v1), (2, .int v2), (3, .int v3), (4, .int v4), (5, .int v5)] (by rw [hn]; decide) rfl ?_
  refine so_sub (pc := 3) (lv' := [(0, .ref (evA (xV X) a0)), (1, .int v1), (2, .int v2), (3, .int v3), (4, .int v4), (5, .int v5), (6, .int v2)]) [1, 2, 3, 4, 5, 6, 0] rfl ?_
  refine g_X1_repeat_L3 hX hL hn hR ka0 (fun μ7 h => ?_) FU _ _ h
  exact so_vretH (pc := 58) hX hR h dX1_repeat_58
set_option maxHeartbeats 4000000 in
set_option maxRecDepth 100000 in
theorem c_X1_differ {l : Launch} {V : Ev} (hL : V.2.2.2 = lyC) {v0 : Int32} {v1 : Int32} {v2 : Int32}  {μ : Mem} {rZ : Int32} {μZ : Mem} (h : f_X1_differ v0 v1 v2 μ = some (rZ, μZ)) : CT l V yX1_differ cX1_differ 3 (some .boolean) 0 [.int v0, .int v1, .int v2] μ μZ (some (.int rZ)) := by
  refine so_met [(0, .int v0), (1, .int v1), (2, .int v2)] (by decide) (Nat.le_of_ble_eq_true rfl) (evCn hL) rfl ?_
  intro X hl hV hn hX hR
  subst hl hV
  unfold f_X1_differ at h
  refine so_iload_n (pc := 0) hX dX1_differ_0 0 rfl ?_
  refine so_iload_n (pc := 1) hX dX1_differ_1 1 rfl ?_
  refine so_ixor (pc := 2) hX dX1_differ_2 ?_
  refine so_iload_n (pc := 3) hX dX1_differ_3 2 rfl ?_
  refine so_iand (pc := 4) hX dX1_differ_4 ?_
  refine so_if_eq (pc := 5) hX 12 dX1_differ_5 (by decide) (fun hc1 => ?_) (fun hc1 => ?_)
  · have h := ip hc1 h
    refine so_iconst (v := (0 : Int32)) (pc := 12) hX dX1_differ_12 (by decide) ?_
    exact so_iretH (pc := 13) hX hR h (by decide) dX1_differ_13
  · have h := iq hc1 h
    refine so_iconst (v := (1 : Int32)) (pc := 8) hX dX1_differ_8 (by decide) ?_
    refine so_goto (pc := 9) hX 13 dX1_differ_9 (by decide) ?_
    exact so_iretH (pc := 13) hX hR h (by decide) dX1_differ_13
set_option maxHeartbeats 4000000 in
set_option maxRecDepth 100000 in
theorem c_X1_jointBelow {l : Launch} {V : Ev} (hL : V.2.2.2 = lyC) {v0 : Int32} {v1 : Int32}  {μ : Mem} {rZ : Int32} {μZ : Mem} (h : f_X1_jointBelow v0 v1 μ = some (rZ, μZ)) : CT l V yX1_jointBelow cX1_jointBelow 4 (some .int) 1 [.int v0, .int v1] μ μZ (some (.int rZ)) := by
  refine so_met [(0, .int v0), (1, .int v1)] (by decide) (Nat.le_of_ble_eq_true rfl) (evCn hL) rfl ?_
  intro X hl hV hn hX hR
  subst hl hV
  unfold f_X1_jointBelow at h
  refine so_iload_n (pc := 0) hX dX1_jointBelow_0 1 rfl ?_
  refine so_bipush (v := (15 : Int32)) (pc := 1) hX dX1_jointBelow_1 (by decide) ?_
  refine so_iand (pc := 3) hX dX1_jointBelow_3 ?_
  refine so_iload_n (pc := 4) hX dX1_jointBelow_4 0 rfl ?_
  refine so_bipush (v := (15 : Int32)) (pc := 5) hX dX1_jointBelow_5 (by decide) ?_
  refine so_iand (pc := 7) hX dX1_jointBelow_7 ?_
  refine so_isub (pc := 8) hX dX1_jointBelow_8 ?_
  refine so_istore_n (pc := 9) hX dX1_jointBelow_9 [(2, .int ((v1 &&& (15 : Int32)) - (v0 &&& (15 : Int32)))), (0, .int v0), (1, .int v1)] (by rw [hn]; decide) rfl ?_
  refine so_iload_n (pc := 10) hX dX1_jointBelow_10 0 rfl ?_
  refine so_mabs (pc := 11) hX dX1_jointBelow_11 ml_X1_55 (by omega) (Nat.le_of_ble_eq_true rfl) ?_
  refine so_iconst (v := (1 : Int32)) (pc := 14) hX dX1_jointBelow_14 (by decide) ?_
  refine so_icmp_ne (pc := 15) hX 42 dX1_jointBelow_15 (by decide) (fun hc1 => ?_) (fun hc1 => ?_)
  · have h := iq hc1 h
    refine so_iconst (v := (0 : Int32)) (pc := 42) hX dX1_jointBelow_42 (by decide) ?_
    refine so_istore_n (pc := 43) hX dX1_jointBelow_43 [(3, .int (0 : Int32)), (2, .int ((v1 &&& (15 : Int32)) - (v0 &&& (15 : Int32)))), (0, .int v0), (1, .int v1)] (by rw [hn]; decide) rfl ?_
    refine so_iload_n (pc := 44) hX dX1_jointBelow_44 0 rfl ?_
    refine so_if_eq (pc := 45) hX 52 dX1_jointBelow_45 (by decide) (fun _ => ?_) (fun hz => absurd hz (by decide))
    refine so_iconst (v := (0 : Int32)) (pc := 52) hX dX1_jointBelow_52 (by decide) ?_
    exact so_iretH (pc := 53) hX hR h rfl dX1_jointBelow_53
  · have h := ip hc1 h
    refine so_iload_n (pc := 18) hX dX1_jointBelow_18 1 rfl ?_
    refine so_iload_n (pc := 19) hX dX1_jointBelow_19 2 rfl ?_
    refine so_bipush (v := (16 : Int32)) (pc := 20) hX dX1_jointBelow_20 (by decide) ?_
    obtain ⟨r3, μ2, hr, h⟩ := obd h
    refine so_callS (As := [.int v0, .int v1, .int (16 : Int32)]) (rest := []) (pc := 22) hX dX1_jointBelow_22 (c_X1_differ hL hr) mw_X1_differ ms_X1_differ ml_X1_59 rfl rfl (by omega) (by decide) (Nat.le_of_ble_eq_true rfl) ?_
    refine so_if_ne (pc := 25) hX 42 dX1_jointBelow_25 (by decide) (fun hc4 => ?_) (fun hc4 => ?_)
    · have h := iq hc4 h
      refine so_iconst (v := (0 : Int32)) (pc := 42) hX dX1_jointBelow_42 (by decide) ?_
      refine so_istore_n (pc := 43) hX dX1_jointBelow_43 [(3, .int (0 : Int32)), (2, .int ((v1 &&& (15 : Int32)) - (v0 &&& (15 : Int32)))), (0, .int v0), (1, .int v1)] (by rw [hn]; decide) rfl ?_
      refine so_iload_n (pc := 44) hX dX1_jointBelow_44 0 rfl ?_
      refine so_if_eq (pc := 45) hX 52 dX1_jointBelow_45 (by decide) (fun _ => ?_) (fun hz => absurd hz (by decide))
      refine so_iconst (v := (0 : Int32)) (pc := 52) hX dX1_jointBelow_52 (by decide) ?_
      exact so_iretH (pc := 53) hX hR h rfl dX1_jointBelow_53
    · have h := ip hc4 h
      refine so_iload_n (pc := 28) hX dX1_jointBelow_28 1 rfl ?_
      refine so_iload_n (pc := 29) hX dX1_jointBelow_29 2 rfl ?_
      refine so_bipush (v := (32 : Int32)) (pc := 30) hX dX1_jointBelow_30 (by decide) ?_
      obtain ⟨r6, μ5, hr, h⟩ := obd h
      refine so_callS (As := [.int v0, .int v1, .int (32 : Int32)]) (rest := []) (pc := 32) hX dX1_jointBelow_32 (c_X1_differ hL hr) mw_X1_differ ms_X1_differ ml_X1_59 rfl rfl (by omega) (by decide) (Nat.le_of_ble_eq_true rfl) ?_
      refine so_if_eq (pc := 35) hX 42 dX1_jointBelow_35 (by decide) (fun hc7 => ?_) (fun hc7 => ?_)
      · have h := ip hc7 h
        refine so_iconst (v := (0 : Int32)) (pc := 42) hX dX1_jointBelow_42 (by decide) ?_
        refine so_istore_n (pc := 43) hX dX1_jointBelow_43 [(3, .int (0 : Int32)), (2, .int ((v1 &&& (15 : Int32)) - (v0 &&& (15 : Int32)))), (0, .int v0), (1, .int v1)] (by rw [hn]; decide) rfl ?_
        refine so_iload_n (pc := 44) hX dX1_jointBelow_44 0 rfl ?_
        refine so_if_eq (pc := 45) hX 52 dX1_jointBelow_45 (by decide) (fun _ => ?_) (fun hz => absurd hz (by decide))
        refine so_iconst (v := (0 : Int32)) (pc := 52) hX dX1_jointBelow_52 (by decide) ?_
        exact so_iretH (pc := 53) hX hR h rfl dX1_jointBelow_53
      · have h := iq hc7 h
        refine so_iconst (v := (1 : Int32)) (pc := 38) hX dX1_jointBelow_38 (by decide) ?_
        refine so_goto (pc := 39) hX 43 dX1_jointBelow_39 (by decide) ?_
        refine so_istore_n (pc := 43) hX dX1_jointBelow_43 [(3, .int (1 : Int32)), (2, .int ((v1 &&& (15 : Int32)) - (v0 &&& (15 : Int32)))), (0, .int v0), (1, .int v1)] (by rw [hn]; decide) rfl ?_
        refine so_iload_n (pc := 44) hX dX1_jointBelow_44 0 rfl ?_
        refine so_if_eq (pc := 45) hX 52 dX1_jointBelow_45 (by decide) (fun hz => absurd hz (by decide)) (fun _ => ?_)
        refine so_iconst (v := (2 : Int32)) (pc := 48) hX dX1_jointBelow_48 (by decide) ?_
        refine so_goto (pc := 49) hX 53 dX1_jointBelow_49 (by decide) ?_
        exact so_iretH (pc := 53) hX hR h rfl dX1_jointBelow_53
set_option maxHeartbeats 4000000 in
set_option maxRecDepth 100000 in
theorem c_X1_jointBeside {l : Launch} {V : Ev} (hL : V.2.2.2 = lyC) {v0 : Int32} {v1 : Int32}  {μ : Mem} {rZ : Int32} {μZ : Mem} (h : f_X1_jointBeside v0 v1 μ = some (rZ, μZ)) : CT l V yX1_jointBeside cX1_jointBeside 4 (some .int) 1 [.int v0, .int v1] μ μZ (some (.int rZ)) := by
  refine so_met [(0, .int v0), (1, .int v1)] (by decide) (Nat.le_of_ble_eq_true rfl) (evCn hL) rfl ?_
  intro X hl hV hn hX hR
  subst hl hV
  unfold f_X1_jointBeside at h
  refine so_iload_n (pc := 0) hX dX1_jointBeside_0 1 rfl ?_
  refine so_bipush (v := (15 : Int32)) (pc := 1) hX dX1_jointBeside_1 (by decide) ?_
  refine so_iand (pc := 3) hX dX1_jointBeside_3 ?_
  refine so_iload_n (pc := 4) hX dX1_jointBeside_4 0 rfl ?_
  refine so_bipush (v := (15 : Int32)) (pc := 5) hX dX1_jointBeside_5 (by decide) ?_
  refine so_iand (pc := 7) hX dX1_jointBeside_7 ?_
  refine so_isub (pc := 8) hX dX1_jointBeside_8 ?_
  refine so_istore_n (pc := 9) hX dX1_jointBeside_9 [(2, .int ((v1 &&& (15 : Int32)) - (v0 &&& (15 : Int32)))), (0, .int v0), (1, .int v1)] (by rw [hn]; decide) rfl ?_
  refine so_iload_n (pc := 10) hX dX1_jointBeside_10 0 rfl ?_
  refine so_mabs (pc := 11) hX dX1_jointBeside_11 ml_X1_55 (by omega) (Nat.le_of_ble_eq_true rfl) ?_
  refine so_iconst (v := (1 : Int32)) (pc := 14) hX dX1_jointBeside_14 (by decide) ?_
  refine so_icmp_ne (pc := 15) hX 28 dX1_jointBeside_15 (by decide) (fun hc1 => ?_) (fun hc1 => ?_)
  · have h := iq hc1 h
    refine so_iconst (v := (0 : Int32)) (pc := 28) hX dX1_jointBeside_28 (by decide) ?_
    exact so_iretH (pc := 29) hX hR h rfl dX1_jointBeside_29
  · have h := ip hc1 h
    refine so_iload_n (pc := 18) hX dX1_jointBeside_18 1 rfl ?_
    refine so_iload_n (pc := 19) hX dX1_jointBeside_19 2 rfl ?_
    refine so_bipush (v := (32 : Int32)) (pc := 20) hX dX1_jointBeside_20 (by decide) ?_
    obtain ⟨r3, μ2, hr, h⟩ := obd h
    refine so_callS (As := [.int v0, .int v1, .int (32 : Int32)]) (rest := []) (pc := 22) hX dX1_jointBeside_22 (c_X1_differ hL hr) mw_X1_differ ms_X1_differ ml_X1_59 rfl rfl (by omega) (by decide) (Nat.le_of_ble_eq_true rfl) ?_
    refine so_if_eq (pc := 25) hX 30 dX1_jointBeside_25 (by decide) (fun hc4 => ?_) (fun hc4 => ?_)
    · have h := ip hc4 h
      refine so_iload_n (pc := 30) hX dX1_jointBeside_30 1 rfl ?_
      refine so_iload_n (pc := 31) hX dX1_jointBeside_31 2 rfl ?_
      refine so_bipush (v := (16 : Int32)) (pc := 32) hX dX1_jointBeside_32 (by decide) ?_
      obtain ⟨r6, μ5, hr, h⟩ := obd h
      refine so_callS (As := [.int v0, .int v1, .int (16 : Int32)]) (rest := []) (pc := 34) hX dX1_jointBeside_34 (c_X1_differ hL hr) mw_X1_differ ms_X1_differ ml_X1_59 rfl rfl (by omega) (by decide) (Nat.le_of_ble_eq_true rfl) ?_
      refine so_if_eq (pc := 37) hX 42 dX1_jointBeside_37 (by decide) (fun hc7 => ?_) (fun hc7 => ?_)
      · have h := ip hc7 h
        refine so_iload_n (pc := 42) hX dX1_jointBeside_42 1 rfl ?_
        refine so_bipush (v := (16 : Int32)) (pc := 43) hX dX1_jointBeside_43 (by decide) ?_
        refine so_iand (pc := 45) hX dX1_jointBeside_45 ?_
        refine so_if_eq (pc := 46) hX 53 dX1_jointBeside_46 (by decide) (fun hc8 => ?_) (fun hc8 => ?_)
        · have h := ip hc8 h
          refine so_iconst (v := (0 : Int32)) (pc := 53) hX dX1_jointBeside_53 (by decide) ?_
          refine so_istore_n (pc := 54) hX dX1_jointBeside_54 [(3, .int (0 : Int32)), (2, .int ((v1 &&& (15 : Int32)) - (v0 &&& (15 : Int32)))), (0, .int v0), (1, .int v1)] (by rw [hn]; decide) rfl ?_
          refine so_iload_n (pc := 55) hX dX1_jointBeside_55 1 rfl ?_
          refine so_iload_n (pc := 56) hX dX1_jointBeside_56 0 rfl ?_
          refine so_if_eq (pc := 57) hX 64 dX1_jointBeside_57 (by decide) (fun _ => ?_) (fun hz => absurd hz (by decide))
          refine so_iconst (v := (1 : Int32)) (pc := 64) hX dX1_jointBeside_64 (by decide) ?_
          refine so_icmp_ne (pc := 65) hX 72 dX1_jointBeside_65 (by decide) (fun hc9 => ?_) (fun hc9 => ?_)
          · have h := iq hc9 h
            refine so_iconst (v := (0 : Int32)) (pc := 72) hX dX1_jointBeside_72 (by decide) ?_
            exact so_iretH (pc := 73) hX hR h rfl dX1_jointBeside_73
          · have h := ip hc9 h
            refine so_iconst (v := (1 : Int32)) (pc := 68) hX dX1_jointBeside_68 (by decide) ?_
            refine so_goto (pc := 69) hX 73 dX1_jointBeside_69 (by decide) ?_
            exact so_iretH (pc := 73) hX hR h rfl dX1_jointBeside_73
        · have h := iq hc8 h
          refine so_iconst (v := (1 : Int32)) (pc := 49) hX dX1_jointBeside_49 (by decide) ?_
          refine so_goto (pc := 50) hX 54 dX1_jointBeside_50 (by decide) ?_
          refine so_istore_n (pc := 54) hX dX1_jointBeside_54 [(3, .int (1 : Int32)), (2, .int ((v1 &&& (15 : Int32)) - (v0 &&& (15 : Int32)))), (0, .int v0), (1, .int v1)] (by rw [hn]; decide) rfl ?_
          refine so_iload_n (pc := 55) hX dX1_jointBeside_55 1 rfl ?_
          refine so_iload_n (pc := 56) hX dX1_jointBeside_56 0 rfl ?_
          refine so_if_eq (pc := 57) hX 64 dX1_jointBeside_57 (by decide) (fun hz => absurd hz (by decide)) (fun _ => ?_)
          refine so_iconst (v := (-1 : Int32)) (pc := 60) hX dX1_jointBeside_60 (by decide) ?_
          refine so_goto (pc := 61) hX 65 dX1_jointBeside_61 (by decide) ?_
          refine so_icmp_ne (pc := 65) hX 72 dX1_jointBeside_65 (by decide) (fun hc10 => ?_) (fun hc10 => ?_)
          · have h := iq hc10 h
            refine so_iconst (v := (0 : Int32)) (pc := 72) hX dX1_jointBeside_72 (by decide) ?_
            exact so_iretH (pc := 73) hX hR h rfl dX1_jointBeside_73
          · have h := ip hc10 h
            refine so_iconst (v := (1 : Int32)) (pc := 68) hX dX1_jointBeside_68 (by decide) ?_
            refine so_goto (pc := 69) hX 73 dX1_jointBeside_69 (by decide) ?_
            exact so_iretH (pc := 73) hX hR h rfl dX1_jointBeside_73
      · have h := iq hc7 h
        refine so_iconst (v := (2 : Int32)) (pc := 40) hX dX1_jointBeside_40 (by decide) ?_
        exact so_iretH (pc := 41) hX hR h rfl dX1_jointBeside_41
    · have h := iq hc4 h
      refine so_iconst (v := (0 : Int32)) (pc := 28) hX dX1_jointBeside_28 (by decide) ?_
      exact so_iretH (pc := 29) hX hR h rfl dX1_jointBeside_29
set_option maxHeartbeats 4000000 in
set_option maxRecDepth 100000 in
theorem c_X1_jointAt {l : Launch} {V : Ev} (hL : V.2.2.2 = lyC) {a0 : Nat} {v1 : Int32} {v2 : Int32} {v3 : Int32} (ka0 : kdC a0 = 1) {μ : Mem} {rZ : Int32} {μZ : Mem} (h : f_X1_jointAt a0 v1 v2 v3 μ = some (rZ, μZ)) : CT l V yX1_jointAt cX1_jointAt 8 (some .int) 2 [.ref (evA V a0), .int v1, .int v2, .int v3] μ μZ (some (.int rZ)) := by
  refine so_met [(0, .ref (evA V a0)), (1, .int v1), (2, .int v2), (3, .int v3)] (by decide) (Nat.le_of_ble_eq_true rfl) (evCn hL) rfl ?_
  intro X hl hV hn hX hR
  subst hl hV
  unfold f_X1_jointAt at h
  refine so_aload_n (pc := 0) hX dX1_jointAt_0 0 rfl ?_
  refine so_iload_n (pc := 1) hX dX1_jointAt_1 1 rfl ?_
  refine so_iload_n (pc := 2) hX dX1_jointAt_2 2 rfl ?_
  obtain ⟨r2, μ1, hr, h⟩ := obd h
  refine so_callV (As := [.int v1, .int v2]) (rest := []) (pc := 3) hX dX1_jointAt_3 (c_X1_has hL ka0 hr) mw_X1_has mv_X1_has ml_X1_45 (ekC hL ka0) (by decide) rfl rfl rfl rfl (by omega) (by decide) (Nat.le_of_ble_eq_true rfl) ?_
  refine so_if_ne (pc := 6) hX 11 dX1_jointAt_6 (by decide) (fun hc3 => ?_) (fun hc3 => ?_)
  · have h := iq hc3 h
    refine so_iload_n (pc := 11) hX dX1_jointAt_11 3 rfl ?_
    refine so_if_eq (pc := 12) hX 19 dX1_jointAt_12 (by decide) (fun hc4 => ?_) (fun hc4 => ?_)
    · have h := ip hc4 h
      refine so_iload_n (pc := 19) hX dX1_jointAt_19 1 rfl ?_
      refine so_iconst (v := (1 : Int32)) (pc := 20) hX dX1_jointAt_20 (by decide) ?_
      refine so_iadd (pc := 21) hX dX1_jointAt_21 ?_
      refine so_istore (pc := 22) hX dX1_jointAt_22 [(4, .int (v1 + (1 : Int32))), (0, .ref (evA (xV X) a0)), (1, .int v1), (2, .int v2), (3, .int v3)] (by rw [hn]; decide) rfl ?_
      refine so_iload_n (pc := 24) hX dX1_jointAt_24 4 rfl ?_
      refine so_if_eq (pc := 25) hX 34 dX1_jointAt_25 (by decide) (fun _ => ?_) (fun hz => absurd hc4 hz)
      refine so_iload_n (pc := 34) hX dX1_jointAt_34 3 rfl ?_
      refine so_istore (pc := 35) hX dX1_jointAt_35 [(5, .int v2), (4, .int (v1 + (1 : Int32))), (0, .ref (evA (xV X) a0)), (1, .int v1), (2, .int v2), (3, .int v3)] (by rw [hn]; decide) rfl ?_
      refine so_aload_n (pc := 37) hX dX1_jointAt_37 2 rfl ?_
      refine so_iload (pc := 38) hX dX1_jointAt_38 1 rfl ?_
      refine so_iload (pc := 40) hX dX1_jointAt_40 0 rfl ?_
      obtain ⟨r6, μ5, hr, h⟩ := obd h
      refine so_callV (As := [.int (v1 + (1 : Int32)), .int v2]) (rest := []) (pc := 42) hX dX1_jointAt_42 (c_X1_has hL ka0 hr) mw_X1_has mv_X1_has ml_X1_45 (ekC hL ka0) (by decide) rfl rfl rfl rfl (by omega) (by decide) (Nat.le_of_ble_eq_true rfl) ?_
      refine so_if_ne (pc := 45) hX 50 dX1_jointAt_45 (by decide) (fun hc7 => ?_) (fun hc7 => ?_)
      · have h := iq hc7 h
        refine so_aload_n (pc := 50) hX dX1_jointAt_50 2 rfl ?_
        refine so_iload_n (pc := 51) hX dX1_jointAt_51 3 rfl ?_
        refine so_iload_n (pc := 52) hX dX1_jointAt_52 4 rfl ?_
        obtain ⟨r9, μ8, hr, h⟩ := obd h
        refine so_callV (As := [.int v1, .int v2]) (rest := []) (pc := 53) hX dX1_jointAt_53 (c_X1_cellAt hL ka0 hr) mw_X1_cellAt mv_X1_cellAt ml_X1_26 (ekC hL ka0) (by decide) rfl rfl rfl rfl (by omega) (by decide) (Nat.le_of_ble_eq_true rfl) ?_
        refine so_istore (pc := 56) hX dX1_jointAt_56 [(6, .int r9), (5, .int v2), (4, .int (v1 + (1 : Int32))), (0, .ref (evA (xV X) a0)), (1, .int v1), (2, .int v2), (3, .int v3)] (by rw [hn]; decide) rfl ?_
        refine so_aload_n (pc := 58) hX dX1_jointAt_58 3 rfl ?_
        refine so_iload (pc := 59) hX dX1_jointAt_59 2 rfl ?_
        refine so_iload (pc := 61) hX dX1_jointAt_61 1 rfl ?_
        obtain ⟨r11, μ10, hr, h⟩ := obd h
        refine so_callV (As := [.int (v1 + (1 : Int32)), .int v2]) (rest := []) (pc := 63) hX dX1_jointAt_63 (c_X1_cellAt hL ka0 hr) mw_X1_cellAt mv_X1_cellAt ml_X1_26 (ekC hL ka0) (by decide) rfl rfl rfl rfl (by omega) (by decide) (Nat.le_of_ble_eq_true rfl) ?_
        refine so_istore (pc := 66) hX dX1_jointAt_66 [(7, .int r11), (6, .int r9), (5, .int v2), (4, .int (v1 + (1 : Int32))), (0, .ref (evA (xV X) a0)), (1, .int v1), (2, .int v2), (3, .int v3)] (by rw [hn]; decide) rfl ?_
        refine so_iload_n (pc := 68) hX dX1_jointAt_68 7 rfl ?_
        refine so_if_eq (pc := 69) hX 82 dX1_jointAt_69 (by decide) (fun _ => ?_) (fun hz => absurd hc4 hz)
        refine so_iload (pc := 82) hX dX1_jointAt_82 1 rfl ?_
        refine so_iload (pc := 84) hX dX1_jointAt_84 0 rfl ?_
        obtain ⟨r13, μ12, hr, h⟩ := obd h
        refine so_callS (As := [.int r9, .int r11]) (rest := []) (pc := 86) hX dX1_jointAt_86 (c_X1_jointBeside hL hr) mw_X1_jointBeside ms_X1_jointBeside ml_X1_52 rfl rfl (by omega) (by decide) (Nat.le_of_ble_eq_true rfl) ?_
        exact so_iretH (pc := 89) hX hR h rfl dX1_jointAt_89
      · have h := ip hc7 h
        refine so_iconst (v := (-1 : Int32)) (pc := 48) hX dX1_jointAt_48 (by decide) ?_
        exact so_iretH (pc := 49) hX hR h rfl dX1_jointAt_49
    · have h := iq hc4 h
      refine so_iload_n (pc := 15) hX dX1_jointAt_15 1 rfl ?_
      refine so_goto (pc := 16) hX 22 dX1_jointAt_16 (by decide) ?_
      refine so_istore (pc := 22) hX dX1_jointAt_22 [(4, .int v1), (0, .ref (evA (xV X) a0)), (1, .int v1), (2, .int v2), (3, .int v3)] (by rw [hn]; decide) rfl ?_
      refine so_iload_n (pc := 24) hX dX1_jointAt_24 4 rfl ?_
      refine so_if_eq (pc := 25) hX 34 dX1_jointAt_25 (by decide) (fun hz => absurd hz hc4) (fun _ => ?_)
      refine so_iload_n (pc := 28) hX dX1_jointAt_28 3 rfl ?_
      refine so_iconst (v := (1 : Int32)) (pc := 29) hX dX1_jointAt_29 (by decide) ?_
      refine so_iadd (pc := 30) hX dX1_jointAt_30 ?_
      refine so_goto (pc := 31) hX 35 dX1_jointAt_31 (by decide) ?_
      refine so_istore (pc := 35) hX dX1_jointAt_35 [(5, .int (v2 + (1 : Int32))), (4, .int v1), (0, .ref (evA (xV X) a0)), (1, .int v1), (2, .int v2), (3, .int v3)] (by rw [hn]; decide) rfl ?_
      refine so_aload_n (pc := 37) hX dX1_jointAt_37 2 rfl ?_
      refine so_iload (pc := 38) hX dX1_jointAt_38 1 rfl ?_
      refine so_iload (pc := 40) hX dX1_jointAt_40 0 rfl ?_
      obtain ⟨r15, μ14, hr, h⟩ := obd h
      refine so_callV (As := [.int v1, .int (v2 + (1 : Int32))]) (rest := []) (pc := 42) hX dX1_jointAt_42 (c_X1_has hL ka0 hr) mw_X1_has mv_X1_has ml_X1_45 (ekC hL ka0) (by decide) rfl rfl rfl rfl (by omega) (by decide) (Nat.le_of_ble_eq_true rfl) ?_
      refine so_if_ne (pc := 45) hX 50 dX1_jointAt_45 (by decide) (fun hc16 => ?_) (fun hc16 => ?_)
      · have h := iq hc16 h
        refine so_aload_n (pc := 50) hX dX1_jointAt_50 2 rfl ?_
        refine so_iload_n (pc := 51) hX dX1_jointAt_51 3 rfl ?_
        refine so_iload_n (pc := 52) hX dX1_jointAt_52 4 rfl ?_
        obtain ⟨r18, μ17, hr, h⟩ := obd h
        refine so_callV (As := [.int v1, .int v2]) (rest := []) (pc := 53) hX dX1_jointAt_53 (c_X1_cellAt hL ka0 hr) mw_X1_cellAt mv_X1_cellAt ml_X1_26 (ekC hL ka0) (by decide) rfl rfl rfl rfl (by omega) (by decide) (Nat.le_of_ble_eq_true rfl) ?_
        refine so_istore (pc := 56) hX dX1_jointAt_56 [(6, .int r18), (5, .int (v2 + (1 : Int32))), (4, .int v1), (0, .ref (evA (xV X) a0)), (1, .int v1), (2, .int v2), (3, .int v3)] (by rw [hn]; decide) rfl ?_
        refine so_aload_n (pc := 58) hX dX1_jointAt_58 3 rfl ?_
        refine so_iload (pc := 59) hX dX1_jointAt_59 2 rfl ?_
        refine so_iload (pc := 61) hX dX1_jointAt_61 1 rfl ?_
        obtain ⟨r20, μ19, hr, h⟩ := obd h
        refine so_callV (As := [.int v1, .int (v2 + (1 : Int32))]) (rest := []) (pc := 63) hX dX1_jointAt_63 (c_X1_cellAt hL ka0 hr) mw_X1_cellAt mv_X1_cellAt ml_X1_26 (ekC hL ka0) (by decide) rfl rfl rfl rfl (by omega) (by decide) (Nat.le_of_ble_eq_true rfl) ?_
        refine so_istore (pc := 66) hX dX1_jointAt_66 [(7, .int r20), (6, .int r18), (5, .int (v2 + (1 : Int32))), (4, .int v1), (0, .ref (evA (xV X) a0)), (1, .int v1), (2, .int v2), (3, .int v3)] (by rw [hn]; decide) rfl ?_
        refine so_iload_n (pc := 68) hX dX1_jointAt_68 7 rfl ?_
        refine so_if_eq (pc := 69) hX 82 dX1_jointAt_69 (by decide) (fun hz => absurd hz hc4) (fun _ => ?_)
        refine so_iload (pc := 72) hX dX1_jointAt_72 1 rfl ?_
        refine so_iload (pc := 74) hX dX1_jointAt_74 0 rfl ?_
        obtain ⟨r22, μ21, hr, h⟩ := obd h
        refine so_callS (As := [.int r18, .int r20]) (rest := []) (pc := 76) hX dX1_jointAt_76 (c_X1_jointBelow hL hr) mw_X1_jointBelow ms_X1_jointBelow ml_X1_49 rfl rfl (by omega) (by decide) (Nat.le_of_ble_eq_true rfl) ?_
        refine so_goto (pc := 79) hX 89 dX1_jointAt_79 (by decide) ?_
        exact so_iretH (pc := 89) hX hR h rfl dX1_jointAt_89
      · have h := ip hc16 h
        refine so_iconst (v := (-1 : Int32)) (pc := 48) hX dX1_jointAt_48 (by decide) ?_
        exact so_iretH (pc := 49) hX hR h rfl dX1_jointAt_49
  · have h := ip hc3 h
    refine so_iconst (v := (-1 : Int32)) (pc := 9) hX dX1_jointAt_9 (by decide) ?_
    exact so_iretH (pc := 10) hX hR h rfl dX1_jointAt_10
set_option maxHeartbeats 4000000 in
set_option maxRecDepth 100000 in
theorem g_X1_countJoints_L15 {X : Cx} (hX : Fx X cX1_countJoints RX1 3) (hL : (xV X).2.2.2 = lyC) (hn : xn X = 5) {rZ : Int32} {μZ : Mem} (hR : Rt X (some .int) μZ (some (.int rZ))) {b0 : Nat} {v1 : Int32} {v3 : Int32} (kb0 : kdC b0 = 1) {K : Int32 → Mem → Option (Int32 × Mem)} (hK : ∀ (v2 : Int32) (μ : Mem), K v2 μ = some (rZ, μZ) → Gd X 70 [(0, .ref (evA (xV X) b0)), (1, .int v1), (2, .int v2), (3, .int v3)] [] μ) : ∀ (n : Nat) (v2 : Int32) (v4 : Int32) (μ : Mem), f_X1_countJoints_L15 b0 v1 v3 K n v2 v4 μ = some (rZ, μZ) → Gd X 15 [(0, .ref (evA (xV X) b0)), (1, .int v1), (2, .int v2), (3, .int v3), (4, .int v4)] [] μ := by
  intro n
  induction n with
  | zero => intro _ _ _ h; rw [f_X1_countJoints_L15] at h; cases h
  | succ n ih =>
    intro v2 v4 μ h
    rw [f_X1_countJoints_L15] at h
    refine so_iload (pc := 15) hX dX1_countJoints_15 4 rfl ?_
    refine so_aload_n (pc := 17) hX dX1_countJoints_17 0 rfl ?_
    refine so_gI (pc := 18) hX dX1_countJoints_18 fl_X1_15 (ekC hL kb0) ?_
    refine so_icmp_ge (pc := 21) hX 70 dX1_countJoints_21 (by decide) (fun hc2 => ?_) (fun hc2 => ?_)
    · have h := ip hc2 h
      refine so_sub (pc := 70) (lv' := [(0, .ref (evA (xV X) b0)), (1, .int v1), (2, .int v2), (3, .int v3)]) [0, 1, 2, 3] rfl ?_
      exact hK _ _ h
    · have h := iq hc2 h
      refine so_iload_n (pc := 24) hX dX1_countJoints_24 2 rfl ?_
      refine so_aload_n (pc := 25) hX dX1_countJoints_25 0 rfl ?_
      refine so_iload (pc := 26) hX dX1_countJoints_26 4 rfl ?_
      refine so_iload_n (pc := 28) hX dX1_countJoints_28 3 rfl ?_
      refine so_iconst (v := (0 : Int32)) (pc := 29) hX dX1_countJoints_29 (by decide) ?_
      obtain ⟨r4, μ3, hr, h⟩ := obd h
      refine so_callV (As := [.int v4, .int v3, .int (0 : Int32)]) (rest := [.int v2]) (pc := 30) hX dX1_countJoints_30 (c_X1_jointAt hL kb0 hr) mw_X1_jointAt mv_X1_jointAt ml_X1_62 (ekC hL kb0) (by decide) rfl rfl rfl rfl (by omega) (by decide) (Nat.le_of_ble_eq_true rfl) ?_
      refine so_iload_n (pc := 33) hX dX1_countJoints_33 1 rfl ?_
      refine so_icmp_ne (pc := 34) hX 41 dX1_countJoints_34 (by decide) (fun hc5 => ?_) (fun hc5 => ?_)
      · have h := iq hc5 h
        refine so_iconst (v := (0 : Int32)) (pc := 41) hX dX1_countJoints_41 (by decide) ?_
        refine so_iadd (pc := 42) hX dX1_countJoints_42 ?_
        refine so_istore_n (pc := 43) hX dX1_countJoints_43 [(2, .int (v2 + (0 : Int32))), (0, .ref (evA (xV X) b0)), (1, .int v1), (3, .int v3), (4, .int v4)] (by rw [hn]; decide) rfl ?_
        refine so_iload_n (pc := 44) hX dX1_countJoints_44 0 rfl ?_
        refine so_aload_n (pc := 45) hX dX1_countJoints_45 1 rfl ?_
        refine so_iload (pc := 46) hX dX1_countJoints_46 4 rfl ?_
        refine so_iload_n (pc := 48) hX dX1_countJoints_48 3 rfl ?_
        refine so_iconst (v := (1 : Int32)) (pc := 49) hX dX1_countJoints_49 (by decide) ?_
        obtain ⟨r10, μ9, hr, h⟩ := obd h
        refine so_callV (As := [.int v4, .int v3, .int (1 : Int32)]) (rest := [.int (v2 + (0 : Int32))]) (pc := 50) hX dX1_countJoints_50 (c_X1_jointAt hL kb0 hr) mw_X1_jointAt mv_X1_jointAt ml_X1_62 (ekC hL kb0) (by decide) rfl rfl rfl rfl (by omega) (by decide) (Nat.le_of_ble_eq_true rfl) ?_
        refine so_iload_n (pc := 53) hX dX1_countJoints_53 2 rfl ?_
        refine so_icmp_ne (pc := 54) hX 61 dX1_countJoints_54 (by decide) (fun hc11 => ?_) (fun hc11 => ?_)
        · have h := iq hc11 h
          refine so_iconst (v := (0 : Int32)) (pc := 61) hX dX1_countJoints_61 (by decide) ?_
          refine so_iadd (pc := 62) hX dX1_countJoints_62 ?_
          refine so_istore_n (pc := 63) hX dX1_countJoints_63 [(2, .int ((v2 + (0 : Int32)) + (0 : Int32))), (0, .ref (evA (xV X) b0)), (1, .int v1), (3, .int v3), (4, .int v4)] (by rw [hn]; decide) rfl ?_
          refine so_iinc (pc := 64) hX dX1_countJoints_64 4 (1 : Int32) [(4, .int (v4 + (1 : Int32))), (2, .int ((v2 + (0 : Int32)) + (0 : Int32))), (0, .ref (evA (xV X) b0)), (1, .int v1), (3, .int v3)] rfl (by decide) (by rw [hn]; decide) rfl ?_
          refine so_goto (pc := 67) hX 15 dX1_countJoints_67 (by decide) ?_
          refine so_sub (pc := 15) (lv' := [(0, .ref (evA (xV X) b0)), (1, .int v1), (2, .int ((v2 + (0 : Int32)) + (0 : Int32))), (3, .int v3), (4, .int (v4 + (1 : Int32)))]) [2, 3, 1, 4, 0] rfl ?_
          exact ih _ _ _ h
        · have h := ip hc11 h
          refine so_iconst (v := (1 : Int32)) (pc := 57) hX dX1_countJoints_57 (by decide) ?_
          refine so_goto (pc := 58) hX 62 dX1_countJoints_58 (by decide) ?_
          refine so_iadd (pc := 62) hX dX1_countJoints_62 ?_
          refine so_istore_n (pc := 63) hX dX1_countJoints_63 [(2, .int ((v2 + (0 : Int32)) + (1 : Int32))), (0, .ref (evA (xV X) b0)), (1, .int v1), (3, .int v3), (4, .int v4)] (by rw [hn]; decide) rfl ?_
          refine so_iinc (pc := 64) hX dX1_countJoints_64 4 (1 : Int32) [(4, .int (v4 + (1 : Int32))), (2, .int ((v2 + (0 : Int32)) + (1 : Int32))), (0, .ref (evA (xV X) b0)), (1, .int v1), (3, .int v3)] rfl (by decide) (by rw [hn]; decide) rfl ?_
          refine so_goto (pc := 67) hX 15 dX1_countJoints_67 (by decide) ?_
          refine so_sub (pc := 15) (lv' := [(0, .ref (evA (xV X) b0)), (1, .int v1), (2, .int ((v2 + (0 : Int32)) + (1 : Int32))), (3, .int v3), (4, .int (v4 + (1 : Int32)))]) [2, 3, 1, 4, 0] rfl ?_
          exact ih _ _ _ h
      · have h := ip hc5 h
        refine so_iconst (v := (1 : Int32)) (pc := 37) hX dX1_countJoints_37 (by decide) ?_
        refine so_goto (pc := 38) hX 42 dX1_countJoints_38 (by decide) ?_
        refine so_iadd (pc := 42) hX dX1_countJoints_42 ?_
        refine so_istore_n (pc := 43) hX dX1_countJoints_43 [(2, .int (v2 + (1 : Int32))), (0, .ref (evA (xV X) b0)), (1, .int v1), (3, .int v3), (4, .int v4)] (by rw [hn]; decide) rfl ?_
        refine so_iload_n (pc := 44) hX dX1_countJoints_44 0 rfl ?_
        refine so_aload_n (pc := 45) hX dX1_countJoints_45 1 rfl ?_
        refine so_iload (pc := 46) hX dX1_countJoints_46 4 rfl ?_
        refine so_iload_n (pc := 48) hX dX1_countJoints_48 3 rfl ?_
        refine so_iconst (v := (1 : Int32)) (pc := 49) hX dX1_countJoints_49 (by decide) ?_
        obtain ⟨r7, μ6, hr, h⟩ := obd h
        refine so_callV (As := [.int v4, .int v3, .int (1 : Int32)]) (rest := [.int (v2 + (1 : Int32))]) (pc := 50) hX dX1_countJoints_50 (c_X1_jointAt hL kb0 hr) mw_X1_jointAt mv_X1_jointAt ml_X1_62 (ekC hL kb0) (by decide) rfl rfl rfl rfl (by omega) (by decide) (Nat.le_of_ble_eq_true rfl) ?_
        refine so_iload_n (pc := 53) hX dX1_countJoints_53 2 rfl ?_
        refine so_icmp_ne (pc := 54) hX 61 dX1_countJoints_54 (by decide) (fun hc8 => ?_) (fun hc8 => ?_)
        · have h := iq hc8 h
          refine so_iconst (v := (0 : Int32)) (pc := 61) hX dX1_countJoints_61 (by decide) ?_
          refine so_iadd (pc := 62) hX dX1_countJoints_62 ?_
          refine so_istore_n (pc := 63) hX dX1_countJoints_63 [(2, .int ((v2 + (1 : Int32)) + (0 : Int32))), (0, .ref (evA (xV X) b0)), (1, .int v1), (3, .int v3), (4, .int v4)] (by rw [hn]; decide) rfl ?_
          refine so_iinc (pc := 64) hX dX1_countJoints_64 4 (1 : Int32) [(4, .int (v4 + (1 : Int32))), (2, .int ((v2 + (1 : Int32)) + (0 : Int32))), (0, .ref (evA (xV X) b0)), (1, .int v1), (3, .int v3)] rfl (by decide) (by rw [hn]; decide) rfl ?_
          refine so_goto (pc := 67) hX 15 dX1_countJoints_67 (by decide) ?_
          refine so_sub (pc := 15) (lv' := [(0, .ref (evA (xV X) b0)), (1, .int v1), (2, .int ((v2 + (1 : Int32)) + (0 : Int32))), (3, .int v3), (4, .int (v4 + (1 : Int32)))]) [2, 3, 1, 4, 0] rfl ?_
          exact ih _ _ _ h
        · have h := ip hc8 h
          refine so_iconst (v := (1 : Int32)) (pc := 57) hX dX1_countJoints_57 (by decide) ?_
          refine so_goto (pc := 58) hX 62 dX1_countJoints_58 (by decide) ?_
          refine so_iadd (pc := 62) hX dX1_countJoints_62 ?_
          refine so_istore_n (pc := 63) hX dX1_countJoints_63 [(2, .int ((v2 + (1 : Int32)) + (1 : Int32))), (0, .ref (evA (xV X) b0)), (1, .int v1), (3, .int v3), (4, .int v4)] (by rw [hn]; decide) rfl ?_
          refine so_iinc (pc := 64) hX dX1_countJoints_64 4 (1 : Int32) [(4, .int (v4 + (1 : Int32))), (2, .int ((v2 + (1 : Int32)) + (1 : Int32))), (0, .ref (evA (xV X) b0)), (1, .int v1), (3, .int v3)] rfl (by decide) (by rw [hn]; decide) rfl ?_
          refine so_goto (pc := 67) hX 15 dX1_countJoints_67 (by decide) ?_
          refine so_sub (pc := 15) (lv' := [(0, .ref (evA (xV X) b0)), (1, .int v1), (2, .int ((v2 + (1 : Int32)) + (1 : Int32))), (3, .int v3), (4, .int (v4 + (1 : Int32)))]) [2, 3, 1, 4, 0] rfl ?_
          exact ih _ _ _ h
set_option maxHeartbeats 4000000 in
set_option maxRecDepth 100000 in
theorem g_X1_countJoints_L4 {X : Cx} (hX : Fx X cX1_countJoints RX1 3) (hL : (xV X).2.2.2 = lyC) (hn : xn X = 5) {rZ : Int32} {μZ : Mem} (hR : Rt X (some .int) μZ (some (.int rZ))) {b0 : Nat} {v1 : Int32} (kb0 : kdC b0 = 1) {K : Int32 → Mem → Option (Int32 × Mem)} (hK : ∀ (v2 : Int32) (μ : Mem), K v2 μ = some (rZ, μZ) → Gd X 76 [(2, .int v2)] [] μ) : ∀ (n : Nat) (v2 : Int32) (v3 : Int32) (μ : Mem), f_X1_countJoints_L4 b0 v1 K n v2 v3 μ = some (rZ, μZ) → Gd X 4 [(0, .ref (evA (xV X) b0)), (1, .int v1), (2, .int v2), (3, .int v3)] [] μ := by
  intro n
  induction n with
  | zero => intro _ _ _ h; rw [f_X1_countJoints_L4] at h; cases h
  | succ n ih =>
    intro v2 v3 μ h
    rw [f_X1_countJoints_L4] at h
    refine so_iload_n (pc := 4) hX dX1_countJoints_4 3 rfl ?_
    refine so_aload_n (pc := 5) hX dX1_countJoints_5 0 rfl ?_
    refine so_gI (pc := 6) hX dX1_countJoints_6 fl_X1_19 (ekC hL kb0) ?_
    refine so_icmp_ge (pc := 9) hX 76 dX1_countJoints_9 (by decide) (fun hc1 => ?_) (fun hc1 => ?_)
    · have h := ip hc1 h
      refine so_sub (pc := 76) (lv' := [(2, .int v2)]) [2] rfl ?_
      exact hK _ _ h
    · have h := iq hc1 h
      refine so_iconst (v := (0 : Int32)) (pc := 12) hX dX1_countJoints_12 (by decide) ?_
      refine so_istore (pc := 13) hX dX1_countJoints_13 [(4, .int (0 : Int32)), (0, .ref (evA (xV X) b0)), (1, .int v1), (2, .int v2), (3, .int v3)] (by rw [hn]; decide) rfl ?_
      refine so_sub (pc := 15) (lv' := [(0, .ref (evA (xV X) b0)), (1, .int v1), (2, .int v2), (3, .int v3), (4, .int (0 : Int32))]) [1, 2, 3, 4, 0] rfl ?_
      refine g_X1_countJoints_L15 hX hL hn hR kb0 (fun w12 μ13 h => ?_) FU _ _ _ h
      refine so_iinc (pc := 70) hX dX1_countJoints_70 3 (1 : Int32) [(3, .int (v3 + (1 : Int32))), (0, .ref (evA (xV X) b0)), (1, .int v1), (2, .int w12)] rfl (by decide) (by rw [hn]; decide) rfl ?_
      refine so_goto (pc := 73) hX 4 dX1_countJoints_73 (by decide) ?_
      refine so_sub (pc := 4) (lv' := [(0, .ref (evA (xV X) b0)), (1, .int v1), (2, .int w12), (3, .int (v3 + (1 : Int32)))]) [1, 2, 3, 0] rfl ?_
      exact ih _ _ _ h
set_option maxHeartbeats 4000000 in
set_option maxRecDepth 100000 in
theorem c_X1_countJoints {l : Launch} {V : Ev} (hL : V.2.2.2 = lyC) {a0 : Nat} {v1 : Int32} (ka0 : kdC a0 = 1) {μ : Mem} {rZ : Int32} {μZ : Mem} (h : f_X1_countJoints a0 v1 μ = some (rZ, μZ)) : CT l V yX1_countJoints cX1_countJoints 5 (some .int) 3 [.ref (evA V a0), .int v1] μ μZ (some (.int rZ)) := by
  refine so_met [(0, .ref (evA V a0)), (1, .int v1)] (by decide) (Nat.le_of_ble_eq_true rfl) (evCn hL) rfl ?_
  intro X hl hV hn hX hR
  subst hl hV
  unfold f_X1_countJoints at h
  refine so_iconst (v := (0 : Int32)) (pc := 0) hX dX1_countJoints_0 (by decide) ?_
  refine so_istore_n (pc := 1) hX dX1_countJoints_1 [(2, .int (0 : Int32)), (0, .ref (evA (xV X) a0)), (1, .int v1)] (by rw [hn]; decide) rfl ?_
  refine so_iconst (v := (0 : Int32)) (pc := 2) hX dX1_countJoints_2 (by decide) ?_
  refine so_istore_n (pc := 3) hX dX1_countJoints_3 [(3, .int (0 : Int32)), (2, .int (0 : Int32)), (0, .ref (evA (xV X) a0)), (1, .int v1)] (by rw [hn]; decide) rfl ?_
  refine so_sub (pc := 4) (lv' := [(0, .ref (evA (xV X) a0)), (1, .int v1), (2, .int (0 : Int32)), (3, .int (0 : Int32))]) [2, 3, 1, 0] rfl ?_
  refine g_X1_countJoints_L4 hX hL hn hR ka0 (fun w14 μ15 h => ?_) FU _ _ _ h
  refine so_iload_n (pc := 76) hX dX1_countJoints_76 0 rfl ?_
  exact so_iretH (pc := 77) hX hR h rfl dX1_countJoints_77
set_option maxHeartbeats 4000000 in
set_option maxRecDepth 100000 in
theorem g_X1_isLike_L62 {X : Cx} (hX : Fx X cX1_isLike RX1 1) (hL : (xV X).2.2.2 = lyC) (hn : xn X = 10) {rZ : Int32} {μZ : Mem} (hR : Rt X (some .boolean) μZ (some (.int rZ))) {b0 : Nat} {b1 : Nat} {v2 : Int32} {v3 : Int32} {v4 : Int32} {v5 : Int32} (kb0 : kdC b0 = 1) (kb1 : kdC b1 = 1) {K : Mem → Option (Int32 × Mem)} (hK : ∀  (μ : Mem), K μ = some (rZ, μZ) → Gd X 145 [(0, .ref (evA (xV X) b0)), (1, .ref (evA (xV X) b1)), (2, .int v2), (3, .int v3), (4, .int v4), (5, .int v5)] [] μ) : ∀ (n : Nat) (v6 : Int32) (μ : Mem), f_X1_isLike_L62 b0 b1 v2 v3 v4 v5 K n v6 μ = some (rZ, μZ) → Gd X 62 [(0, .ref (evA (xV X) b0)), (1, .ref (evA (xV X) b1)), (2, .int v2), (3, .int v3), (4, .int v4), (5, .int v5), (6, .int v6)] [] μ := by
  intro n
  induction n with
  | zero => intro _ _ h; rw [f_X1_isLike_L62] at h; cases h
  | succ n ih =>
    intro v6 μ h
    rw [f_X1_isLike_L62] at h
    refine so_iload (pc := 62) hX dX1_isLike_62 6 rfl ?_
    refine so_aload_n (pc := 64) hX dX1_isLike_64 0 rfl ?_
    refine so_gI (pc := 65) hX dX1_isLike_65 fl_X1_15 (ekC hL kb0) ?_
    refine so_icmp_ge (pc := 68) hX 145 dX1_isLike_68 (by decide) (fun hc6 => ?_) (fun hc6 => ?_)
    · have h := ip hc6 h
      refine so_sub (pc := 145) (lv' := [(0, .ref (evA (xV X) b0)), (1, .ref (evA (xV X) b1)), (2, .int v2), (3, .int v3), (4, .int v4), (5, .int v5)]) [0, 1, 2, 3, 4, 5] rfl ?_
      exact hK _ h
    · have h := iq hc6 h
      refine so_iload_n (pc := 71) hX dX1_isLike_71 2 rfl ?_
      refine so_if_eq (pc := 72) hX 87 dX1_isLike_72 (by decide) (fun hc7 => ?_) (fun hc7 => ?_)
      · have h := ip hc7 h
        refine so_iload (pc := 87) hX dX1_isLike_87 6 rfl ?_
        refine so_istore (pc := 89) hX dX1_isLike_89 [(7, .int v6), (0, .ref (evA (xV X) b0)), (1, .ref (evA (xV X) b1)), (2, .int v2), (3, .int v3), (4, .int v4), (5, .int v5), (6, .int v6)] (by rw [hn]; decide) rfl ?_
        refine so_iload_n (pc := 91) hX dX1_isLike_91 4 rfl ?_
        refine so_if_eq (pc := 92) hX 107 dX1_isLike_92 (by decide) (fun hc8 => ?_) (fun hc8 => ?_)
        · have h := ip hc8 h
          refine so_iload (pc := 107) hX dX1_isLike_107 6 rfl ?_
          refine so_istore (pc := 109) hX dX1_isLike_109 [(8, .int v5), (7, .int v6), (0, .ref (evA (xV X) b0)), (1, .ref (evA (xV X) b1)), (2, .int v2), (3, .int v3), (4, .int v4), (5, .int v5), (6, .int v6)] (by rw [hn]; decide) rfl ?_
          refine so_aload_n (pc := 111) hX dX1_isLike_111 3 rfl ?_
          refine so_iload (pc := 112) hX dX1_isLike_112 1 rfl ?_
          refine so_iload (pc := 114) hX dX1_isLike_114 0 rfl ?_
          obtain ⟨r10, μ9, hr, h⟩ := obd h
          refine so_callV (As := [.int v6, .int v5]) (rest := []) (pc := 116) hX dX1_isLike_116 (c_X1_cellAt hL kb1 hr) mw_X1_cellAt mv_X1_cellAt ml_X1_26 (ekC hL kb1) (by decide) rfl rfl rfl rfl (by omega) (by decide) (Nat.le_of_ble_eq_true rfl) ?_
          refine so_iload (pc := 119) hX dX1_isLike_119 6 rfl ?_
          refine so_ixor (pc := 121) hX dX1_isLike_121 ?_
          refine so_istore (pc := 122) hX dX1_isLike_122 [(9, .int (r10 ^^^ v4)), (8, .int v5), (7, .int v6), (0, .ref (evA (xV X) b0)), (1, .ref (evA (xV X) b1)), (2, .int v2), (3, .int v3), (4, .int v4), (5, .int v5), (6, .int v6)] (by rw [hn]; decide) rfl ?_
          refine so_aload_n (pc := 124) hX dX1_isLike_124 3 rfl ?_
          refine so_iload (pc := 125) hX dX1_isLike_125 9 rfl ?_
          refine so_iload (pc := 127) hX dX1_isLike_127 8 rfl ?_
          obtain ⟨r12, μ11, hr, h⟩ := obd h
          refine so_callV (As := [.int v6, .int v5]) (rest := []) (pc := 129) hX dX1_isLike_129 (c_X1_cellAt hL kb0 hr) mw_X1_cellAt mv_X1_cellAt ml_X1_26 (ekC hL kb0) (by decide) rfl rfl rfl rfl (by omega) (by decide) (Nat.le_of_ble_eq_true rfl) ?_
          refine so_iload (pc := 132) hX dX1_isLike_132 0 rfl ?_
          refine so_icmp_eq (pc := 134) hX 139 dX1_isLike_134 (by decide) (fun hc13 => ?_) (fun hc13 => ?_)
          · have h := ip hc13 h
            refine so_iinc (pc := 139) hX dX1_isLike_139 9 (1 : Int32) [(6, .int (v6 + (1 : Int32))), (9, .int (r10 ^^^ v4)), (8, .int v5), (7, .int v6), (0, .ref (evA (xV X) b0)), (1, .ref (evA (xV X) b1)), (2, .int v2), (3, .int v3), (4, .int v4), (5, .int v5)] rfl (by decide) (by rw [hn]; decide) rfl ?_
            refine so_goto (pc := 142) hX 62 dX1_isLike_142 (by decide) ?_
            refine so_sub (pc := 62) (lv' := [(0, .ref (evA (xV X) b0)), (1, .ref (evA (xV X) b1)), (2, .int v2), (3, .int v3), (4, .int v4), (5, .int v5), (6, .int (v6 + (1 : Int32)))]) [4, 5, 6, 7, 8, 9, 0] rfl ?_
            exact ih _ _ h
          · have h := iq hc13 h
            refine so_iconst (v := (0 : Int32)) (pc := 137) hX dX1_isLike_137 (by decide) ?_
            exact so_iretH (pc := 138) hX hR h (by decide) dX1_isLike_138
        · have h := iq hc8 h
          refine so_aload_n (pc := 95) hX dX1_isLike_95 1 rfl ?_
          refine so_gI (pc := 96) hX dX1_isLike_96 fl_X1_19 (ekC hL kb0) ?_
          refine so_iconst (v := (1 : Int32)) (pc := 99) hX dX1_isLike_99 (by decide) ?_
          refine so_isub (pc := 100) hX dX1_isLike_100 ?_
          refine so_iload (pc := 101) hX dX1_isLike_101 6 rfl ?_
          refine so_isub (pc := 103) hX dX1_isLike_103 ?_
          refine so_goto (pc := 104) hX 109 dX1_isLike_104 (by decide) ?_
          refine so_istore (pc := 109) hX dX1_isLike_109 [(8, .int (((μ.1 b0 2) - (1 : Int32)) - v5)), (7, .int v6), (0, .ref (evA (xV X) b0)), (1, .ref (evA (xV X) b1)), (2, .int v2), (3, .int v3), (4, .int v4), (5, .int v5), (6, .int v6)] (by rw [hn]; decide) rfl ?_
          refine so_aload_n (pc := 111) hX dX1_isLike_111 3 rfl ?_
          refine so_iload (pc := 112) hX dX1_isLike_112 1 rfl ?_
          refine so_iload (pc := 114) hX dX1_isLike_114 0 rfl ?_
          obtain ⟨r15, μ14, hr, h⟩ := obd h
          refine so_callV (As := [.int v6, .int (((μ.1 b0 2) - (1 : Int32)) - v5)]) (rest := []) (pc := 116) hX dX1_isLike_116 (c_X1_cellAt hL kb1 hr) mw_X1_cellAt mv_X1_cellAt ml_X1_26 (ekC hL kb1) (by decide) rfl rfl rfl rfl (by omega) (by decide) (Nat.le_of_ble_eq_true rfl) ?_
          refine so_iload (pc := 119) hX dX1_isLike_119 6 rfl ?_
          refine so_ixor (pc := 121) hX dX1_isLike_121 ?_
          refine so_istore (pc := 122) hX dX1_isLike_122 [(9, .int (r15 ^^^ v4)), (8, .int (((μ.1 b0 2) - (1 : Int32)) - v5)), (7, .int v6), (0, .ref (evA (xV X) b0)), (1, .ref (evA (xV X) b1)), (2, .int v2), (3, .int v3), (4, .int v4), (5, .int v5), (6, .int v6)] (by rw [hn]; decide) rfl ?_
          refine so_aload_n (pc := 124) hX dX1_isLike_124 3 rfl ?_
          refine so_iload (pc := 125) hX dX1_isLike_125 9 rfl ?_
          refine so_iload (pc := 127) hX dX1_isLike_127 8 rfl ?_
          obtain ⟨r17, μ16, hr, h⟩ := obd h
          refine so_callV (As := [.int v6, .int v5]) (rest := []) (pc := 129) hX dX1_isLike_129 (c_X1_cellAt hL kb0 hr) mw_X1_cellAt mv_X1_cellAt ml_X1_26 (ekC hL kb0) (by decide) rfl rfl rfl rfl (by omega) (by decide) (Nat.le_of_ble_eq_true rfl) ?_
          refine so_iload (pc := 132) hX dX1_isLike_132 0 rfl ?_
          refine so_icmp_eq (pc := 134) hX 139 dX1_isLike_134 (by decide) (fun hc18 => ?_) (fun hc18 => ?_)
          · have h := ip hc18 h
            refine so_iinc (pc := 139) hX dX1_isLike_139 9 (1 : Int32) [(6, .int (v6 + (1 : Int32))), (9, .int (r15 ^^^ v4)), (8, .int (((μ.1 b0 2) - (1 : Int32)) - v5)), (7, .int v6), (0, .ref (evA (xV X) b0)), (1, .ref (evA (xV X) b1)), (2, .int v2), (3, .int v3), (4, .int v4), (5, .int v5)] rfl (by decide) (by rw [hn]; decide) rfl ?_
            refine so_goto (pc := 142) hX 62 dX1_isLike_142 (by decide) ?_
            refine so_sub (pc := 62) (lv' := [(0, .ref (evA (xV X) b0)), (1, .ref (evA (xV X) b1)), (2, .int v2), (3, .int v3), (4, .int v4), (5, .int v5), (6, .int (v6 + (1 : Int32)))]) [4, 5, 6, 7, 8, 9, 0] rfl ?_
            exact ih _ _ h
          · have h := iq hc18 h
            refine so_iconst (v := (0 : Int32)) (pc := 137) hX dX1_isLike_137 (by decide) ?_
            exact so_iretH (pc := 138) hX hR h (by decide) dX1_isLike_138
      · have h := iq hc7 h
        refine so_aload_n (pc := 75) hX dX1_isLike_75 0 rfl ?_
        refine so_gI (pc := 76) hX dX1_isLike_76 fl_X1_15 (ekC hL kb0) ?_
        refine so_iconst (v := (1 : Int32)) (pc := 79) hX dX1_isLike_79 (by decide) ?_
        refine so_isub (pc := 80) hX dX1_isLike_80 ?_
        refine so_iload (pc := 81) hX dX1_isLike_81 6 rfl ?_
        refine so_isub (pc := 83) hX dX1_isLike_83 ?_
        refine so_goto (pc := 84) hX 89 dX1_isLike_84 (by decide) ?_
        refine so_istore (pc := 89) hX dX1_isLike_89 [(7, .int (((μ.1 b0 1) - (1 : Int32)) - v6)), (0, .ref (evA (xV X) b0)), (1, .ref (evA (xV X) b1)), (2, .int v2), (3, .int v3), (4, .int v4), (5, .int v5), (6, .int v6)] (by rw [hn]; decide) rfl ?_
        refine so_iload_n (pc := 91) hX dX1_isLike_91 4 rfl ?_
        refine so_if_eq (pc := 92) hX 107 dX1_isLike_92 (by decide) (fun hc19 => ?_) (fun hc19 => ?_)
        · have h := ip hc19 h
          refine so_iload (pc := 107) hX dX1_isLike_107 6 rfl ?_
          refine so_istore (pc := 109) hX dX1_isLike_109 [(8, .int v5), (7, .int (((μ.1 b0 1) - (1 : Int32)) - v6)), (0, .ref (evA (xV X) b0)), (1, .ref (evA (xV X) b1)), (2, .int v2), (3, .int v3), (4, .int v4), (5, .int v5), (6, .int v6)] (by rw [hn]; decide) rfl ?_
          refine so_aload_n (pc := 111) hX dX1_isLike_111 3 rfl ?_
          refine so_iload (pc := 112) hX dX1_isLike_112 1 rfl ?_
          refine so_iload (pc := 114) hX dX1_isLike_114 0 rfl ?_
          obtain ⟨r21, μ20, hr, h⟩ := obd h
          refine so_callV (As := [.int (((μ.1 b0 1) - (1 : Int32)) - v6), .int v5]) (rest := []) (pc := 116) hX dX1_isLike_116 (c_X1_cellAt hL kb1 hr) mw_X1_cellAt mv_X1_cellAt ml_X1_26 (ekC hL kb1) (by decide) rfl rfl rfl rfl (by omega) (by decide) (Nat.le_of_ble_eq_true rfl) ?_
          refine so_iload (pc := 119) hX dX1_isLike_119 6 rfl ?_
          refine so_ixor (pc := 121) hX dX1_isLike_121 ?_
          refine so_istore (pc := 122) hX dX1_isLike_122 [(9, .int (r21 ^^^ v4)), (8, .int v5), (7, .int (((μ.1 b0 1) - (1 : Int32)) - v6)), (0, .ref (evA (xV X) b0)), (1, .ref (evA (xV X) b1)), (2, .int v2), (3, .int v3), (4, .int v4), (5, .int v5), (6, .int v6)] (by rw [hn]; decide) rfl ?_
          refine so_aload_n (pc := 124) hX dX1_isLike_124 3 rfl ?_
          refine so_iload (pc := 125) hX dX1_isLike_125 9 rfl ?_
          refine so_iload (pc := 127) hX dX1_isLike_127 8 rfl ?_
          obtain ⟨r23, μ22, hr, h⟩ := obd h
          refine so_callV (As := [.int v6, .int v5]) (rest := []) (pc := 129) hX dX1_isLike_129 (c_X1_cellAt hL kb0 hr) mw_X1_cellAt mv_X1_cellAt ml_X1_26 (ekC hL kb0) (by decide) rfl rfl rfl rfl (by omega) (by decide) (Nat.le_of_ble_eq_true rfl) ?_
          refine so_iload (pc := 132) hX dX1_isLike_132 0 rfl ?_
          refine so_icmp_eq (pc := 134) hX 139 dX1_isLike_134 (by decide) (fun hc24 => ?_) (fun hc24 => ?_)
          · have h := ip hc24 h
            refine so_iinc (pc := 139) hX dX1_isLike_139 9 (1 : Int32) [(6, .int (v6 + (1 : Int32))), (9, .int (r21 ^^^ v4)), (8, .int v5), (7, .int (((μ.1 b0 1) - (1 : Int32)) - v6)), (0, .ref (evA (xV X) b0)), (1, .ref (evA (xV X) b1)), (2, .int v2), (3, .int v3), (4, .int v4), (5, .int v5)] rfl (by decide) (by rw [hn]; decide) rfl ?_
            refine so_goto (pc := 142) hX 62 dX1_isLike_142 (by decide) ?_
            refine so_sub (pc := 62) (lv' := [(0, .ref (evA (xV X) b0)), (1, .ref (evA (xV X) b1)), (2, .int v2), (3, .int v3), (4, .int v4), (5, .int v5), (6, .int (v6 + (1 : Int32)))]) [4, 5, 6, 7, 8, 9, 0] rfl ?_
            exact ih _ _ h
          · have h := iq hc24 h
            refine so_iconst (v := (0 : Int32)) (pc := 137) hX dX1_isLike_137 (by decide) ?_
            exact so_iretH (pc := 138) hX hR h (by decide) dX1_isLike_138
        · have h := iq hc19 h
          refine so_aload_n (pc := 95) hX dX1_isLike_95 1 rfl ?_
          refine so_gI (pc := 96) hX dX1_isLike_96 fl_X1_19 (ekC hL kb0) ?_
          refine so_iconst (v := (1 : Int32)) (pc := 99) hX dX1_isLike_99 (by decide) ?_
          refine so_isub (pc := 100) hX dX1_isLike_100 ?_
          refine so_iload (pc := 101) hX dX1_isLike_101 6 rfl ?_
          refine so_isub (pc := 103) hX dX1_isLike_103 ?_
          refine so_goto (pc := 104) hX 109 dX1_isLike_104 (by decide) ?_
          refine so_istore (pc := 109) hX dX1_isLike_109 [(8, .int (((μ.1 b0 2) - (1 : Int32)) - v5)), (7, .int (((μ.1 b0 1) - (1 : Int32)) - v6)), (0, .ref (evA (xV X) b0)), (1, .ref (evA (xV X) b1)), (2, .int v2), (3, .int v3), (4, .int v4), (5, .int v5), (6, .int v6)] (by rw [hn]; decide) rfl ?_
          refine so_aload_n (pc := 111) hX dX1_isLike_111 3 rfl ?_
          refine so_iload (pc := 112) hX dX1_isLike_112 1 rfl ?_
          refine so_iload (pc := 114) hX dX1_isLike_114 0 rfl ?_
          obtain ⟨r26, μ25, hr, h⟩ := obd h
          refine so_callV (As := [.int (((μ.1 b0 1) - (1 : Int32)) - v6), .int (((μ.1 b0 2) - (1 : Int32)) - v5)]) (rest := []) (pc := 116) hX dX1_isLike_116 (c_X1_cellAt hL kb1 hr) mw_X1_cellAt mv_X1_cellAt ml_X1_26 (ekC hL kb1) (by decide) rfl rfl rfl rfl (by omega) (by decide) (Nat.le_of_ble_eq_true rfl) ?_
          refine so_iload (pc := 119) hX dX1_isLike_119 6 rfl ?_
          refine so_ixor (pc := 121) hX dX1_isLike_121 ?_
          refine so_istore (pc := 122) hX dX1_isLike_122 [(9, .int (r26 ^^^ v4)), (8, .int (((μ.1 b0 2) - (1 : Int32)) - v5)), (7, .int (((μ.1 b0 1) - (1 : Int32)) - v6)), (0, .ref (evA (xV X) b0)), (1, .ref (evA (xV X) b1)), (2, .int v2), (3, .int v3), (4, .int v4), (5, .int v5), (6, .int v6)] (by rw [hn]; decide) rfl ?_
          refine so_aload_n (pc := 124) hX dX1_isLike_124 3 rfl ?_
          refine so_iload (pc := 125) hX dX1_isLike_125 9 rfl ?_
          refine so_iload (pc := 127) hX dX1_isLike_127 8 rfl ?_
          obtain ⟨r28, μ27, hr, h⟩ := obd h
          refine so_callV (As := [.int v6, .int v5]) (rest := []) (pc := 129) hX dX1_isLike_129 (c_X1_cellAt hL kb0 hr) mw_X1_cellAt mv_X1_cellAt ml_X1_26 (ekC hL kb0) (by decide) rfl rfl rfl rfl (by omega) (by decide) (Nat.le_of_ble_eq_true rfl) ?_
          refine so_iload (pc := 132) hX dX1_isLike_132 0 rfl ?_
          refine so_icmp_eq (pc := 134) hX 139 dX1_isLike_134 (by decide) (fun hc29 => ?_) (fun hc29 => ?_)
          · have h := ip hc29 h
            refine so_iinc (pc := 139) hX dX1_isLike_139 9 (1 : Int32) [(6, .int (v6 + (1 : Int32))), (9, .int (r26 ^^^ v4)), (8, .int (((μ.1 b0 2) - (1 : Int32)) - v5)), (7, .int (((μ.1 b0 1) - (1 : Int32)) - v6)), (0, .ref (evA (xV X) b0)), (1, .ref (evA (xV X) b1)), (2, .int v2), (3, .int v3), (4, .int v4), (5, .int v5)] rfl (by decide) (by rw [hn]; decide) rfl ?_
            refine so_goto (pc := 142) hX 62 dX1_isLike_142 (by decide) ?_
            refine so_sub (pc := 62) (lv' := [(0, .ref (evA (xV X) b0)), (1, .ref (evA (xV X) b1)), (2, .int v2), (3, .int v3), (4, .int v4), (5, .int v5), (6, .int (v6 + (1 : Int32)))]) [4, 5, 6, 7, 8, 9, 0] rfl ?_
            exact ih _ _ h
          · have h := iq hc29 h
            refine so_iconst (v := (0 : Int32)) (pc := 137) hX dX1_isLike_137 (by decide) ?_
            exact so_iretH (pc := 138) hX hR h (by decide) dX1_isLike_138
set_option maxHeartbeats 4000000 in
set_option maxRecDepth 100000 in
theorem g_X1_isLike_L50 {X : Cx} (hX : Fx X cX1_isLike RX1 1) (hL : (xV X).2.2.2 = lyC) (hn : xn X = 10) {rZ : Int32} {μZ : Mem} (hR : Rt X (some .boolean) μZ (some (.int rZ))) {b0 : Nat} {b1 : Nat} {v2 : Int32} {v3 : Int32} {v4 : Int32} (kb0 : kdC b0 = 1) (kb1 : kdC b1 = 1) {K : Mem → Option (Int32 × Mem)} (hK : ∀  (μ : Mem), K μ = some (rZ, μZ) → Gd X 151 [] [] μ) : ∀ (n : Nat) (v5 : Int32) (μ : Mem), f_X1_isLike_L50 b0 b1 v2 v3 v4 K n v5 μ = some (rZ, μZ) → Gd X 50 [(0, .ref (evA (xV X) b0)), (1, .ref (evA (xV X) b1)), (2, .int v2), (3, .int v3), (4, .int v4), (5, .int v5)] [] μ := by
  intro n
  induction n with
  | zero => intro _ _ h; rw [f_X1_isLike_L50] at h; cases h
  | succ n ih =>
    intro v5 μ h
    rw [f_X1_isLike_L50] at h
    refine so_iload (pc := 50) hX dX1_isLike_50 5 rfl ?_
    refine so_aload_n (pc := 52) hX dX1_isLike_52 0 rfl ?_
    refine so_gI (pc := 53) hX dX1_isLike_53 fl_X1_19 (ekC hL kb0) ?_
    refine so_icmp_ge (pc := 56) hX 151 dX1_isLike_56 (by decide) (fun hc5 => ?_) (fun hc5 => ?_)
    · have h := ip hc5 h
      refine so_sub (pc := 151) (lv' := []) [] rfl ?_
      exact hK _ h
    · have h := iq hc5 h
      refine so_iconst (v := (0 : Int32)) (pc := 59) hX dX1_isLike_59 (by decide) ?_
      refine so_istore (pc := 60) hX dX1_isLike_60 [(6, .int (0 : Int32)), (0, .ref (evA (xV X) b0)), (1, .ref (evA (xV X) b1)), (2, .int v2), (3, .int v3), (4, .int v4), (5, .int v5)] (by rw [hn]; decide) rfl ?_
      refine so_sub (pc := 62) (lv' := [(0, .ref (evA (xV X) b0)), (1, .ref (evA (xV X) b1)), (2, .int v2), (3, .int v3), (4, .int v4), (5, .int v5), (6, .int (0 : Int32))]) [1, 2, 3, 4, 5, 6, 0] rfl ?_
      refine g_X1_isLike_L62 hX hL hn hR kb0 kb1 (fun μ30 h => ?_) FU _ _ h
      refine so_iinc (pc := 145) hX dX1_isLike_145 5 (1 : Int32) [(5, .int (v5 + (1 : Int32))), (0, .ref (evA (xV X) b0)), (1, .ref (evA (xV X) b1)), (2, .int v2), (3, .int v3), (4, .int v4)] rfl (by decide) (by rw [hn]; decide) rfl ?_
      refine so_goto (pc := 148) hX 50 dX1_isLike_148 (by decide) ?_
      refine so_sub (pc := 50) (lv' := [(0, .ref (evA (xV X) b0)), (1, .ref (evA (xV X) b1)), (2, .int v2), (3, .int v3), (4, .int v4), (5, .int (v5 + (1 : Int32)))]) [1, 2, 3, 4, 5, 0] rfl ?_
      exact ih _ _ h
set_option maxHeartbeats 4000000 in
set_option maxRecDepth 100000 in
theorem c_X1_isLike {l : Launch} {V : Ev} (hL : V.2.2.2 = lyC) {a0 : Nat} {a1 : Nat} {v2 : Int32} {v3 : Int32} (ka0 : kdC a0 = 1) (ka1 : kdC a1 = 1) {μ : Mem} {rZ : Int32} {μZ : Mem} (h : f_X1_isLike a0 a1 v2 v3 μ = some (rZ, μZ)) : CT l V yX1_isLike cX1_isLike 10 (some .boolean) 1 [.ref (evA V a0), .ref (evA V a1), .int v2, .int v3] μ μZ (some (.int rZ)) := by
  refine so_met [(0, .ref (evA V a0)), (1, .ref (evA V a1)), (2, .int v2), (3, .int v3)] (by decide) (Nat.le_of_ble_eq_true rfl) (evCn hL) rfl ?_
  intro X hl hV hn hX hR
  subst hl hV
  unfold f_X1_isLike at h
  refine so_aload_n (pc := 0) hX dX1_isLike_0 0 rfl ?_
  refine so_gI (pc := 1) hX dX1_isLike_1 fl_X1_15 (ekC hL ka0) ?_
  refine so_aload_n (pc := 4) hX dX1_isLike_4 1 rfl ?_
  refine so_gI (pc := 5) hX dX1_isLike_5 fl_X1_15 (ekC hL ka1) ?_
  refine so_icmp_ne (pc := 8) hX 22 dX1_isLike_8 (by decide) (fun hc1 => ?_) (fun hc1 => ?_)
  · have h := iq hc1 h
    refine so_iconst (v := (0 : Int32)) (pc := 22) hX dX1_isLike_22 (by decide) ?_
    exact so_iretH (pc := 23) hX hR h (by decide) dX1_isLike_23
  · have h := ip hc1 h
    refine so_aload_n (pc := 11) hX dX1_isLike_11 0 rfl ?_
    refine so_gI (pc := 12) hX dX1_isLike_12 fl_X1_19 (ekC hL ka0) ?_
    refine so_aload_n (pc := 15) hX dX1_isLike_15 1 rfl ?_
    refine so_gI (pc := 16) hX dX1_isLike_16 fl_X1_19 (ekC hL ka1) ?_
    refine so_icmp_eq (pc := 19) hX 24 dX1_isLike_19 (by decide) (fun hc2 => ?_) (fun hc2 => ?_)
    · have h := ip hc2 h
      refine so_iload_n (pc := 24) hX dX1_isLike_24 2 rfl ?_
      refine so_if_eq (pc := 25) hX 33 dX1_isLike_25 (by decide) (fun hc3 => ?_) (fun hc3 => ?_)
      · have h := ip hc3 h
        refine so_iconst (v := (0 : Int32)) (pc := 33) hX dX1_isLike_33 (by decide) ?_
        refine so_iload_n (pc := 34) hX dX1_isLike_34 3 rfl ?_
        refine so_if_eq (pc := 35) hX 43 dX1_isLike_35 (by decide) (fun hc4 => ?_) (fun hc4 => ?_)
        · have h := ip hc4 h
          refine so_iconst (v := (0 : Int32)) (pc := 43) hX dX1_isLike_43 (by decide) ?_
          refine so_ior (pc := 44) hX dX1_isLike_44 ?_
          refine so_istore (pc := 45) hX dX1_isLike_45 [(4, .int ((0 : Int32) ||| (0 : Int32))), (0, .ref (evA (xV X) a0)), (1, .ref (evA (xV X) a1)), (2, .int v2), (3, .int v3)] (by rw [hn]; decide) rfl ?_
          refine so_iconst (v := (0 : Int32)) (pc := 47) hX dX1_isLike_47 (by decide) ?_
          refine so_istore (pc := 48) hX dX1_isLike_48 [(5, .int (0 : Int32)), (4, .int ((0 : Int32) ||| (0 : Int32))), (0, .ref (evA (xV X) a0)), (1, .ref (evA (xV X) a1)), (2, .int v2), (3, .int v3)] (by rw [hn]; decide) rfl ?_
          refine so_sub (pc := 50) (lv' := [(0, .ref (evA (xV X) a0)), (1, .ref (evA (xV X) a1)), (2, .int v2), (3, .int v3), (4, .int ((0 : Int32) ||| (0 : Int32))), (5, .int (0 : Int32))]) [2, 3, 4, 5, 1, 0] rfl ?_
          refine g_X1_isLike_L50 hX hL hn hR ka0 ka1 (fun μ31 h => ?_) FU _ _ h
          refine so_iconst (v := (1 : Int32)) (pc := 151) hX dX1_isLike_151 (by decide) ?_
          exact so_iretH (pc := 152) hX hR h (by decide) dX1_isLike_152
        · have h := iq hc4 h
          refine so_bipush (v := (32 : Int32)) (pc := 38) hX dX1_isLike_38 (by decide) ?_
          refine so_goto (pc := 40) hX 44 dX1_isLike_40 (by decide) ?_
          refine so_ior (pc := 44) hX dX1_isLike_44 ?_
          refine so_istore (pc := 45) hX dX1_isLike_45 [(4, .int ((0 : Int32) ||| (32 : Int32))), (0, .ref (evA (xV X) a0)), (1, .ref (evA (xV X) a1)), (2, .int v2), (3, .int v3)] (by rw [hn]; decide) rfl ?_
          refine so_iconst (v := (0 : Int32)) (pc := 47) hX dX1_isLike_47 (by decide) ?_
          refine so_istore (pc := 48) hX dX1_isLike_48 [(5, .int (0 : Int32)), (4, .int ((0 : Int32) ||| (32 : Int32))), (0, .ref (evA (xV X) a0)), (1, .ref (evA (xV X) a1)), (2, .int v2), (3, .int v3)] (by rw [hn]; decide) rfl ?_
          refine so_sub (pc := 50) (lv' := [(0, .ref (evA (xV X) a0)), (1, .ref (evA (xV X) a1)), (2, .int v2), (3, .int v3), (4, .int ((0 : Int32) ||| (32 : Int32))), (5, .int (0 : Int32))]) [2, 3, 4, 5, 1, 0] rfl ?_
          refine g_X1_isLike_L50 hX hL hn hR ka0 ka1 (fun μ32 h => ?_) FU _ _ h
          refine so_iconst (v := (1 : Int32)) (pc := 151) hX dX1_isLike_151 (by decide) ?_
          exact so_iretH (pc := 152) hX hR h (by decide) dX1_isLike_152
      · have h := iq hc3 h
        refine so_bipush (v := (16 : Int32)) (pc := 28) hX dX1_isLike_28 (by decide) ?_
        refine so_goto (pc := 30) hX 34 dX1_isLike_30 (by decide) ?_
        refine so_iload_n (pc := 34) hX dX1_isLike_34 3 rfl ?_
        refine so_if_eq (pc := 35) hX 43 dX1_isLike_35 (by decide) (fun hc33 => ?_) (fun hc33 => ?_)
        · have h := ip hc33 h
          refine so_iconst (v := (0 : Int32)) (pc := 43) hX dX1_isLike_43 (by decide) ?_
          refine so_ior (pc := 44) hX dX1_isLike_44 ?_
          refine so_istore (pc := 45) hX dX1_isLike_45 [(4, .int ((16 : Int32) ||| (0 : Int32))), (0, .ref (evA (xV X) a0)), (1, .ref (evA (xV X) a1)), (2, .int v2), (3, .int v3)] (by rw [hn]; decide) rfl ?_
          refine so_iconst (v := (0 : Int32)) (pc := 47) hX dX1_isLike_47 (by decide) ?_
          refine so_istore (pc := 48) hX dX1_isLike_48 [(5, .int (0 : Int32)), (4, .int ((16 : Int32) ||| (0 : Int32))), (0, .ref (evA (xV X) a0)), (1, .ref (evA (xV X) a1)), (2, .int v2), (3, .int v3)] (by rw [hn]; decide) rfl ?_
          refine so_sub (pc := 50) (lv' := [(0, .ref (evA (xV X) a0)), (1, .ref (evA (xV X) a1)), (2, .int v2), (3, .int v3), (4, .int ((16 : Int32) ||| (0 : Int32))), (5, .int (0 : Int32))]) [2, 3, 4, 5, 1, 0] rfl ?_
          refine g_X1_isLike_L50 hX hL hn hR ka0 ka1 (fun μ34 h => ?_) FU _ _ h
          refine so_iconst (v := (1 : Int32)) (pc := 151) hX dX1_isLike_151 (by decide) ?_
          exact so_iretH (pc := 152) hX hR h (by decide) dX1_isLike_152
        · have h := iq hc33 h
          refine so_bipush (v := (32 : Int32)) (pc := 38) hX dX1_isLike_38 (by decide) ?_
          refine so_goto (pc := 40) hX 44 dX1_isLike_40 (by decide) ?_
          refine so_ior (pc := 44) hX dX1_isLike_44 ?_
          refine so_istore (pc := 45) hX dX1_isLike_45 [(4, .int ((16 : Int32) ||| (32 : Int32))), (0, .ref (evA (xV X) a0)), (1, .ref (evA (xV X) a1)), (2, .int v2), (3, .int v3)] (by rw [hn]; decide) rfl ?_
          refine so_iconst (v := (0 : Int32)) (pc := 47) hX dX1_isLike_47 (by decide) ?_
          refine so_istore (pc := 48) hX dX1_isLike_48 [(5, .int (0 : Int32)), (4, .int ((16 : Int32) ||| (32 : Int32))), (0, .ref (evA (xV X) a0)), (1, .ref (evA (xV X) a1)), (2, .int v2), (3, .int v3)] (by rw [hn]; decide) rfl ?_
          refine so_sub (pc := 50) (lv' := [(0, .ref (evA (xV X) a0)), (1, .ref (evA (xV X) a1)), (2, .int v2), (3, .int v3), (4, .int ((16 : Int32) ||| (32 : Int32))), (5, .int (0 : Int32))]) [2, 3, 4, 5, 1, 0] rfl ?_
          refine g_X1_isLike_L50 hX hL hn hR ka0 ka1 (fun μ35 h => ?_) FU _ _ h
          refine so_iconst (v := (1 : Int32)) (pc := 151) hX dX1_isLike_151 (by decide) ?_
          exact so_iretH (pc := 152) hX hR h (by decide) dX1_isLike_152
    · have h := iq hc2 h
      refine so_iconst (v := (0 : Int32)) (pc := 22) hX dX1_isLike_22 (by decide) ?_
      exact so_iretH (pc := 23) hX hR h (by decide) dX1_isLike_23
set_option maxHeartbeats 4000000 in
set_option maxRecDepth 100000 in
theorem c_X4_hasLeaf {l : Launch} {V : Ev} (hL : V.2.2.2 = lyC) {a0 : Nat} {v1 : Int64} (ka0 : kdC a0 = 4) {μ : Mem} {rZ : Int32} {μZ : Mem} (h : f_X4_hasLeaf a0 v1 μ = some (rZ, μZ)) : CT l V yX4_hasLeaf cX4_hasLeaf 3 (some .boolean) 0 [.ref (evA V a0), .long v1] μ μZ (some (.int rZ)) := by
  refine so_met [(0, .ref (evA V a0)), (1, .long v1)] (by decide) (Nat.le_of_ble_eq_true rfl) (evCn hL) rfl ?_
  intro X hl hV hn hX hR
  subst hl hV
  unfold f_X4_hasLeaf at h
  refine so_lconst (v := (0 : Int64)) (pc := 0) hX dX4_hasLeaf_0 (by decide) ?_
  refine so_lload_n (pc := 1) hX dX4_hasLeaf_1 1 rfl ?_
  refine so_lcmp (pc := 2) hX dX4_hasLeaf_2 ?_
  refine so_if_gt (pc := 3) hX 20 dX4_hasLeaf_3 (by decide) (fun hc1 => ?_) (fun hc1 => ?_)
  · have h := ip hc1 h
    refine so_iconst (v := (0 : Int32)) (pc := 20) hX dX4_hasLeaf_20 (by decide) ?_
    exact so_iretH (pc := 21) hX hR h (by decide) dX4_hasLeaf_21
  · have h := iq hc1 h
    refine so_lload_n (pc := 6) hX dX4_hasLeaf_6 1 rfl ?_
    refine so_aload_n (pc := 7) hX dX4_hasLeaf_7 0 rfl ?_
    refine so_gI (pc := 8) hX dX4_hasLeaf_8 fl_X4_33 (ekC hL ka0) ?_
    refine so_i2l (pc := 11) hX dX4_hasLeaf_11 ?_
    refine so_lcmp (pc := 12) hX dX4_hasLeaf_12 ?_
    refine so_if_ge (pc := 13) hX 20 dX4_hasLeaf_13 (by decide) (fun hc2 => ?_) (fun hc2 => ?_)
    · have h := ip hc2 h
      refine so_iconst (v := (0 : Int32)) (pc := 20) hX dX4_hasLeaf_20 (by decide) ?_
      exact so_iretH (pc := 21) hX hR h (by decide) dX4_hasLeaf_21
    · have h := iq hc2 h
      refine so_iconst (v := (1 : Int32)) (pc := 16) hX dX4_hasLeaf_16 (by decide) ?_
      refine so_goto (pc := 17) hX 21 dX4_hasLeaf_17 (by decide) ?_
      exact so_iretH (pc := 21) hX hR h (by decide) dX4_hasLeaf_21
set_option maxHeartbeats 4000000 in
set_option maxRecDepth 100000 in
theorem c_X4_widthOf {l : Launch} {V : Ev} (hL : V.2.2.2 = lyC) {a0 : Nat} {v1 : Int32} (ka0 : kdC a0 = 4) {μ : Mem} {rZ : Int32} {μZ : Mem} (h : f_X4_widthOf a0 v1 μ = some (rZ, μZ)) : CT l V yX4_widthOf cX4_widthOf 2 (some .int) 1 [.ref (evA V a0), .int v1] μ μZ (some (.int rZ)) := by
  refine so_met [(0, .ref (evA V a0)), (1, .int v1)] (by decide) (Nat.le_of_ble_eq_true rfl) (evCn hL) rfl ?_
  intro X hl hV hn hX hR
  subst hl hV
  unfold f_X4_widthOf at h
  refine so_iconst (v := (1 : Int32)) (pc := 0) hX dX4_widthOf_0 (by decide) ?_
  refine so_aload_n (pc := 1) hX dX4_widthOf_1 0 rfl ?_
  refine so_gI (pc := 2) hX dX4_widthOf_2 fl_X4_40 (ekC hL ka0) ?_
  refine so_iload_n (pc := 5) hX dX4_widthOf_5 1 rfl ?_
  refine so_aload_n (pc := 6) hX dX4_widthOf_6 0 rfl ?_
  refine so_gI (pc := 7) hX dX4_widthOf_7 fl_X4_43 (ekC hL ka0) ?_
  refine so_imul (pc := 10) hX dX4_widthOf_10 ?_
  refine so_iadd (pc := 11) hX dX4_widthOf_11 ?_
  refine so_mmax (pc := 12) hX dX4_widthOf_12 ml_X4_64 (by omega) (Nat.le_of_ble_eq_true rfl) ?_
  exact so_iretH (pc := 15) hX hR h rfl dX4_widthOf_15
set_option maxHeartbeats 4000000 in
set_option maxRecDepth 100000 in
theorem c_X4_holds {l : Launch} {V : Ev} (hL : V.2.2.2 = lyC) {a0 : Nat} {v1 : Int32} {v2 : Int32} {v3 : Int64} {v5 : Int32} {v6 : Int32} (ka0 : kdC a0 = 4) {μ : Mem} {rZ : Int32} {μZ : Mem} (h : f_X4_holds a0 v1 v2 v3 v5 v6 μ = some (rZ, μZ)) : CT l V yX4_holds cX4_holds 7 (some .boolean) 2 [.ref (evA V a0), .int v1, .int v2, .long v3, .int v5, .int v6] μ μZ (some (.int rZ)) := by
  refine so_met [(0, .ref (evA V a0)), (1, .int v1), (2, .int v2), (3, .long v3), (5, .int v5), (6, .int v6)] (by decide) (Nat.le_of_ble_eq_true rfl) (evCn hL) rfl ?_
  intro X hl hV hn hX hR
  subst hl hV
  unfold f_X4_holds at h
  refine so_iconst (v := (0 : Int32)) (pc := 0) hX dX4_holds_0 (by decide) ?_
  refine so_iload_n (pc := 1) hX dX4_holds_1 2 rfl ?_
  refine so_icmp_gt (pc := 2) hX 40 dX4_holds_2 (by decide) (fun hc1 => ?_) (fun hc1 => ?_)
  · have h := ip hc1 h
    refine so_iconst (v := (0 : Int32)) (pc := 40) hX dX4_holds_40 (by decide) ?_
    exact so_iretH (pc := 41) hX hR h (by decide) dX4_holds_41
  · have h := iq hc1 h
    refine so_iload_n (pc := 5) hX dX4_holds_5 2 rfl ?_
    refine so_aload_n (pc := 6) hX dX4_holds_6 0 rfl ?_
    refine so_iload_n (pc := 7) hX dX4_holds_7 1 rfl ?_
    obtain ⟨r3, μ2, hr, h⟩ := obd h
    refine so_callV (As := [.int v1]) (rest := [.int v2]) (pc := 8) hX dX4_holds_8 (c_X4_widthOf hL ka0 hr) mw_X4_widthOf mv_X4_widthOf ml_X4_70 (ekC hL ka0) (by decide) rfl rfl rfl rfl (by omega) (by decide) (Nat.le_of_ble_eq_true rfl) ?_
    refine so_iload (pc := 11) hX dX4_holds_11 4 rfl ?_
    refine so_isub (pc := 13) hX dX4_holds_13 ?_
    refine so_icmp_gt (pc := 14) hX 40 dX4_holds_14 (by decide) (fun hc4 => ?_) (fun hc4 => ?_)
    · have h := ip hc4 h
      refine so_iconst (v := (0 : Int32)) (pc := 40) hX dX4_holds_40 (by decide) ?_
      exact so_iretH (pc := 41) hX hR h (by decide) dX4_holds_41
    · have h := iq hc4 h
      refine so_lconst (v := (0 : Int64)) (pc := 17) hX dX4_holds_17 (by decide) ?_
      refine so_lload_n (pc := 18) hX dX4_holds_18 3 rfl ?_
      refine so_lcmp (pc := 19) hX dX4_holds_19 ?_
      refine so_if_gt (pc := 20) hX 40 dX4_holds_20 (by decide) (fun hc5 => ?_) (fun hc5 => ?_)
      · have h := ip hc5 h
        refine so_iconst (v := (0 : Int32)) (pc := 40) hX dX4_holds_40 (by decide) ?_
        exact so_iretH (pc := 41) hX hR h (by decide) dX4_holds_41
      · have h := iq hc5 h
        refine so_lload_n (pc := 23) hX dX4_holds_23 3 rfl ?_
        refine so_aload_n (pc := 24) hX dX4_holds_24 0 rfl ?_
        refine so_gI (pc := 25) hX dX4_holds_25 fl_X4_37 (ekC hL ka0) ?_
        refine so_iload (pc := 28) hX dX4_holds_28 5 rfl ?_
        refine so_isub (pc := 30) hX dX4_holds_30 ?_
        refine so_i2l (pc := 31) hX dX4_holds_31 ?_
        refine so_lcmp (pc := 32) hX dX4_holds_32 ?_
        refine so_if_gt (pc := 33) hX 40 dX4_holds_33 (by decide) (fun hc6 => ?_) (fun hc6 => ?_)
        · have h := ip hc6 h
          refine so_iconst (v := (0 : Int32)) (pc := 40) hX dX4_holds_40 (by decide) ?_
          exact so_iretH (pc := 41) hX hR h (by decide) dX4_holds_41
        · have h := iq hc6 h
          refine so_iconst (v := (1 : Int32)) (pc := 36) hX dX4_holds_36 (by decide) ?_
          refine so_goto (pc := 37) hX 41 dX4_holds_37 (by decide) ?_
          exact so_iretH (pc := 41) hX hR h (by decide) dX4_holds_41
set_option maxHeartbeats 4000000 in
set_option maxRecDepth 100000 in
theorem c_X4_mask {l : Launch} {V : Ev} (hL : V.2.2.2 = lyC) {v0 : Int32} {v1 : Int32}  {μ : Mem} {rZ : Int64} {μZ : Mem} (h : f_X4_mask v0 v1 μ = some (rZ, μZ)) : CT l V yX4_mask cX4_mask 2 (some .long) 0 [.int v0, .int v1] μ μZ (some (.long rZ)) := by
  refine so_met [(0, .int v0), (1, .int v1)] (by decide) (Nat.le_of_ble_eq_true rfl) (evCn hL) rfl ?_
  intro X hl hV hn hX hR
  subst hl hV
  unfold f_X4_mask at h
  refine so_lconst (v := (1 : Int64)) (pc := 0) hX dX4_mask_0 (by decide) ?_
  refine so_iload_n (pc := 1) hX dX4_mask_1 1 rfl ?_
  refine so_lshl (pc := 2) hX dX4_mask_2 ?_
  refine so_lconst (v := (1 : Int64)) (pc := 3) hX dX4_mask_3 (by decide) ?_
  refine so_lsub (pc := 4) hX dX4_mask_4 ?_
  refine so_iload_n (pc := 5) hX dX4_mask_5 0 rfl ?_
  refine so_lshl (pc := 6) hX dX4_mask_6 ?_
  exact so_lretH (pc := 7) hX hR h dX4_mask_7
set_option maxHeartbeats 4000000 in
set_option maxRecDepth 100000 in
theorem g_X4_meets_L27 {X : Cx} (hX : Fx X cX4_meets RX4 1) (hL : (xV X).2.2.2 = lyC) (hn : xn X = 9) {rZ : Int32} {μZ : Mem} (hR : Rt X (some .boolean) μZ (some (.int rZ))) {n0 : Nat} {b0 : Nat} {v4 : Int64} {v7 : Int32} (kb0 : kdC b0 = 12) (nb0 : lnC b0 = n0) {K : Mem → Option (Int32 × Mem)} (hK : ∀  (μ : Mem), K μ = some (rZ, μZ) → Gd X 54 [] [] μ) : ∀ (n : Nat) (v8 : Int32) (μ : Mem), f_X4_meets_L27 n0 b0 v4 v7 K n v8 μ = some (rZ, μZ) → Gd X 27 [(0, .ref (evA (xV X) b0)), (4, .long v4), (7, .int v7), (8, .int v8)] [] μ := by
  intro n
  induction n with
  | zero => intro _ _ h; rw [f_X4_meets_L27] at h; cases h
  | succ n ih =>
    intro v8 μ h
    rw [f_X4_meets_L27] at h
    refine so_iload (pc := 27) hX dX4_meets_27 3 rfl ?_
    refine so_iload (pc := 29) hX dX4_meets_29 2 rfl ?_
    refine so_icmp_ge (pc := 31) hX 54 dX4_meets_31 (by decide) (fun hc1 => ?_) (fun hc1 => ?_)
    · have h := ip hc1 h
      refine so_sub (pc := 54) (lv' := []) [] rfl ?_
      exact hK _ h
    · have h := iq hc1 h
      refine so_aload_n (pc := 34) hX dX4_meets_34 0 rfl ?_
      refine so_iload (pc := 35) hX dX4_meets_35 3 rfl ?_
      obtain ⟨e2, hr, h⟩ := ob h
      refine so_lald (pc := 37) hX dX4_meets_37 (ekC hL kb0) (elC hL nb0) hr ?_
      refine so_lload (pc := 38) hX dX4_meets_38 1 rfl ?_
      refine so_land (pc := 40) hX dX4_meets_40 ?_
      refine so_lconst (v := (0 : Int64)) (pc := 41) hX dX4_meets_41 (by decide) ?_
      refine so_lcmp (pc := 42) hX dX4_meets_42 ?_
      refine so_if_eq (pc := 43) hX 48 dX4_meets_43 (by decide) (fun hc3 => ?_) (fun hc3 => ?_)
      · have h := ip hc3 h
        refine so_iinc (pc := 48) hX dX4_meets_48 3 (1 : Int32) [(8, .int (v8 + (1 : Int32))), (0, .ref (evA (xV X) b0)), (4, .long v4), (7, .int v7)] rfl (by decide) (by rw [hn]; decide) rfl ?_
        refine so_goto (pc := 51) hX 27 dX4_meets_51 (by decide) ?_
        refine so_sub (pc := 27) (lv' := [(0, .ref (evA (xV X) b0)), (4, .long v4), (7, .int v7), (8, .int (v8 + (1 : Int32)))]) [1, 2, 3, 0] rfl ?_
        exact ih _ _ h
      · have h := iq hc3 h
        refine so_iconst (v := (1 : Int32)) (pc := 46) hX dX4_meets_46 (by decide) ?_
        exact so_iretH (pc := 47) hX hR h (by decide) dX4_meets_47
set_option maxHeartbeats 4000000 in
set_option maxRecDepth 100000 in
theorem c_X4_meets {l : Launch} {V : Ev} (hL : V.2.2.2 = lyC) {n0 : Nat} {a0 : Nat} {v1 : Int32} {v2 : Int32} {v3 : Int32} {v4 : Int64} (ka0 : kdC a0 = 12) (na0 : lnC a0 = n0) {μ : Mem} {rZ : Int32} {μZ : Mem} (h : f_X4_meets n0 a0 v1 v2 v3 v4 μ = some (rZ, μZ)) : CT l V yX4_meets cX4_meets 9 (some .boolean) 1 [.ref (evA V a0), .int v1, .int v2, .int v3, .long v4] μ μZ (some (.int rZ)) := by
  refine so_met [(0, .ref (evA V a0)), (1, .int v1), (2, .int v2), (3, .int v3), (4, .long v4)] (by decide) (Nat.le_of_ble_eq_true rfl) (evCn hL) rfl ?_
  intro X hl hV hn hX hR
  subst hl hV
  unfold f_X4_meets at h
  refine so_iload_n (pc := 0) hX dX4_meets_0 1 rfl ?_
  refine so_bipush (v := (60 : Int32)) (pc := 1) hX dX4_meets_1 (by decide) ?_
  refine so_imul (pc := 3) hX dX4_meets_3 ?_
  refine so_iload_n (pc := 4) hX dX4_meets_4 2 rfl ?_
  refine so_iadd (pc := 5) hX dX4_meets_5 ?_
  refine so_istore (pc := 6) hX dX4_meets_6 [(6, .int ((v1 * (60 : Int32)) + v2)), (0, .ref (evA (xV X) a0)), (1, .int v1), (2, .int v2), (3, .int v3), (4, .long v4)] (by rw [hn]; decide) rfl ?_
  refine so_iload (pc := 8) hX dX4_meets_8 0 rfl ?_
  refine so_iload_n (pc := 10) hX dX4_meets_10 4 rfl ?_
  refine so_iadd (pc := 11) hX dX4_meets_11 ?_
  refine so_aload_n (pc := 12) hX dX4_meets_12 1 rfl ?_
  refine so_alenJ (pc := 13) hX dX4_meets_13 (ekC hL ka0) (elC hL na0) ?_
  refine so_mmin (pc := 14) hX dX4_meets_14 ml_X4_96 (by omega) (Nat.le_of_ble_eq_true rfl) ?_
  refine so_istore (pc := 17) hX dX4_meets_17 [(7, .int (iMin (((v1 * (60 : Int32)) + v2) + v3) (nI n0))), (6, .int ((v1 * (60 : Int32)) + v2)), (0, .ref (evA (xV X) a0)), (1, .int v1), (2, .int v2), (3, .int v3), (4, .long v4)] (by rw [hn]; decide) rfl ?_
  refine so_iconst (v := (0 : Int32)) (pc := 19) hX dX4_meets_19 (by decide) ?_
  refine so_iload (pc := 20) hX dX4_meets_20 1 rfl ?_
  refine so_mmax (pc := 22) hX dX4_meets_22 ml_X4_64 (by omega) (Nat.le_of_ble_eq_true rfl) ?_
  refine so_istore (pc := 25) hX dX4_meets_25 [(8, .int (iMax (0 : Int32) ((v1 * (60 : Int32)) + v2))), (7, .int (iMin (((v1 * (60 : Int32)) + v2) + v3) (nI n0))), (6, .int ((v1 * (60 : Int32)) + v2)), (0, .ref (evA (xV X) a0)), (1, .int v1), (2, .int v2), (3, .int v3), (4, .long v4)] (by rw [hn]; decide) rfl ?_
  refine so_sub (pc := 27) (lv' := [(0, .ref (evA (xV X) a0)), (4, .long v4), (7, .int (iMin (((v1 * (60 : Int32)) + v2) + v3) (nI n0))), (8, .int (iMax (0 : Int32) ((v1 * (60 : Int32)) + v2)))]) [3, 7, 1, 0] rfl ?_
  refine g_X4_meets_L27 hX hL hn hR ka0 na0 (fun μ4 h => ?_) FU _ _ h
  refine so_iconst (v := (0 : Int32)) (pc := 54) hX dX4_meets_54 (by decide) ?_
  exact so_iretH (pc := 55) hX hR h (by decide) dX4_meets_55
