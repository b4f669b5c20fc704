set_option maxHeartbeats 4000000 in
set_option maxRecDepth 100000 in
theorem c_X10_make {l : Launch} {V : Ev} (hL : V.2.2.2 = lyM) {v1 : Int32} {v2 : Int32}  {μ : Mem} {rZ : Int32} {μZ : Mem} (h : f_X10_make v1 v2 μ = some (rZ, μZ)) : CT l V yX10_make cX10_make 3 (some .int) 5 [.ref (evA V 0), .int v1, .int v2] μ μZ (some (.int rZ)) := by
  refine so_met [(0, .ref (evA V 0)), (1, .int v1), (2, .int v2)] (by decide) (Nat.le_of_ble_eq_true rfl) (evMn hL) rfl ?_
  intro X hl hV hn hX hR
  subst hl hV
  unfold f_X10_make at h
  refine so_aload_n (pc := 0) hX dX10_make_0 0 rfl ?_
  refine so_iload_n (pc := 1) hX dX10_make_1 1 rfl ?_
  obtain ⟨r2, μ1, hr, h⟩ := obd h
  refine so_callV (As := [.int v1]) (rest := []) (pc := 2) hX dX10_make_2 (c_X10_isDoor hL hr) mw_X10_isDoor mv_X10_isDoor ml_X10_276 (ekM hL rfl) (by decide) rfl rfl rfl rfl (by omega) (by decide) (Nat.le_of_ble_eq_true rfl) ?_
  refine so_if_eq (pc := 5) hX 35 dX10_make_5 (by decide) (fun hc3 => ?_) (fun hc3 => ?_)
  · have h := ip hc3 h
    refine so_iconst (v := (-1 : Int32)) (pc := 35) hX dX10_make_35 (by decide) ?_
    exact so_iretH (pc := 36) hX hR h rfl dX10_make_36
  · have h := iq hc3 h
    refine so_aload_n (pc := 8) hX dX10_make_8 0 rfl ?_
    refine so_iload_n (pc := 9) hX dX10_make_9 2 rfl ?_
    obtain ⟨r5, μ4, hr, h⟩ := obd h
    refine so_callV (As := [.int v2]) (rest := []) (pc := 10) hX dX10_make_10 (c_X10_isLog hL hr) mw_X10_isLog mv_X10_isLog ml_X10_167 (ekM hL rfl) (by decide) rfl rfl rfl rfl (by omega) (by decide) (Nat.le_of_ble_eq_true rfl) ?_
    refine so_if_eq (pc := 13) hX 35 dX10_make_13 (by decide) (fun hc6 => ?_) (fun hc6 => ?_)
    · have h := ip hc6 h
      refine so_iconst (v := (-1 : Int32)) (pc := 35) hX dX10_make_35 (by decide) ?_
      exact so_iretH (pc := 36) hX hR h rfl dX10_make_36
    · have h := iq hc6 h
      refine so_aload_n (pc := 16) hX dX10_make_16 0 rfl ?_
      refine so_gR (pc := 17) hX 44 dX10_make_17 fl_X10_143 (ekM hL rfl) (erM hL rfl) ?_
      refine so_iload_n (pc := 20) hX dX10_make_20 1 rfl ?_
      obtain ⟨e7, hr, h⟩ := ob h
      refine so_iald (pc := 21) hX dX10_make_21 (ekM hL rfl) (elM hL rfl) hr ?_
      refine so_iconst (v := (-1 : Int32)) (pc := 22) hX dX10_make_22 (by decide) ?_
      refine so_icmp_ne (pc := 23) hX 35 dX10_make_23 (by decide) (fun hc8 => ?_) (fun hc8 => ?_)
      · have h := iq hc8 h
        refine so_iconst (v := (-1 : Int32)) (pc := 35) hX dX10_make_35 (by decide) ?_
        exact so_iretH (pc := 36) hX hR h rfl dX10_make_36
      · have h := ip hc8 h
        refine so_aload_n (pc := 26) hX dX10_make_26 0 rfl ?_
        refine so_iload_n (pc := 27) hX dX10_make_27 1 rfl ?_
        refine so_iload_n (pc := 28) hX dX10_make_28 2 rfl ?_
        obtain ⟨r10, μ9, hr, h⟩ := obd h
        refine so_callV (As := [.int v1, .int v2]) (rest := []) (pc := 29) hX dX10_make_29 (c_X10_places hL hr) mw_X10_places mv_X10_places ml_X10_324 (ekM hL rfl) (by decide) rfl rfl rfl rfl (by omega) (by decide) (Nat.le_of_ble_eq_true rfl) ?_
        refine so_if_ne (pc := 32) hX 37 dX10_make_32 (by decide) (fun hc11 => ?_) (fun hc11 => ?_)
        · have h := iq hc11 h
          refine so_aload_n (pc := 37) hX dX10_make_37 0 rfl ?_
          refine so_iload_n (pc := 38) hX dX10_make_38 1 rfl ?_
          refine so_iload_n (pc := 39) hX dX10_make_39 2 rfl ?_
          obtain ⟨μ12, hr, h⟩ := ob h
          refine so_callV (As := [.int v1, .int v2]) (rest := []) (pc := 40) hX dX10_make_40 (c_X10_cuts hL hr) mw_X10_cuts mv_X10_cuts ml_X10_327 (ekM hL rfl) (by decide) rfl rfl rfl rfl (by omega) (by decide) (Nat.le_of_ble_eq_true rfl) ?_
          refine so_aload_n (pc := 43) hX dX10_make_43 0 rfl ?_
          refine so_gR (pc := 44) hX 44 dX10_make_44 fl_X10_143 (ekM hL rfl) (erM hL rfl) ?_
          refine so_iload_n (pc := 47) hX dX10_make_47 1 rfl ?_
          refine so_iload_n (pc := 48) hX dX10_make_48 2 rfl ?_
          obtain ⟨μ13, hr, h⟩ := ob h
          refine so_iast (pc := 49) hX dX10_make_49 (ekM hL rfl) (elM hL rfl) hr ?_
          refine so_aload_n (pc := 50) hX dX10_make_50 0 rfl ?_
          refine so_gR (pc := 51) hX 45 dX10_make_51 fl_X10_146 (ekM hL rfl) (erM hL rfl) ?_
          refine so_iload_n (pc := 54) hX dX10_make_54 1 rfl ?_
          refine so_aload_n (pc := 55) hX dX10_make_55 0 rfl ?_
          refine so_gI (pc := 56) hX dX10_make_56 fl_X10_315 (ekM hL rfl) ?_
          obtain ⟨μ14, hr, h⟩ := ob h
          refine so_iast (pc := 59) hX dX10_make_59 (ekM hL rfl) (elM hL rfl) hr ?_
          refine so_aload_n (pc := 60) hX dX10_make_60 0 rfl ?_
          refine so_gR (pc := 61) hX 46 dX10_make_61 fl_X10_149 (ekM hL rfl) (erM hL rfl) ?_
          refine so_iload_n (pc := 64) hX dX10_make_64 1 rfl ?_
          refine so_aload_n (pc := 65) hX dX10_make_65 0 rfl ?_
          refine so_gI (pc := 66) hX dX10_make_66 fl_X10_318 (ekM hL rfl) ?_
          obtain ⟨μ15, hr, h⟩ := ob h
          refine so_iast (pc := 69) hX dX10_make_69 (ekM hL rfl) (elM hL rfl) hr ?_
          refine so_aload_n (pc := 70) hX dX10_make_70 0 rfl ?_
          refine so_gR (pc := 71) hX 47 dX10_make_71 fl_X10_152 (ekM hL rfl) (erM hL rfl) ?_
          refine so_iload_n (pc := 74) hX dX10_make_74 1 rfl ?_
          refine so_aload_n (pc := 75) hX dX10_make_75 0 rfl ?_
          refine so_gI (pc := 76) hX dX10_make_76 fl_X10_321 (ekM hL rfl) ?_
          obtain ⟨μ16, hr, h⟩ := ob h
          refine so_iast (pc := 79) hX dX10_make_79 (ekM hL rfl) (elM hL rfl) hr ?_
          refine so_aload_n (pc := 80) hX dX10_make_80 0 rfl ?_
          refine so_gR (pc := 81) hX 38 dX10_make_81 fl_X10_125 (ekM hL rfl) (erM hL rfl) ?_
          refine so_iload_n (pc := 84) hX dX10_make_84 1 rfl ?_
          obtain ⟨e17, hr, h⟩ := ob h
          refine so_iald (pc := 85) hX dX10_make_85 (ekM hL rfl) (elM hL rfl) hr ?_
          refine so_aload_n (pc := 86) hX dX10_make_86 0 rfl ?_
          refine so_gR (pc := 87) hX 39 dX10_make_87 fl_X10_128 (ekM hL rfl) (erM hL rfl) ?_
          refine so_iload_n (pc := 90) hX dX10_make_90 1 rfl ?_
          obtain ⟨e18, hr, h⟩ := ob h
          refine so_iald (pc := 91) hX dX10_make_91 (ekM hL rfl) (elM hL rfl) hr ?_
          refine so_imul (pc := 92) hX dX10_make_92 ?_
          exact so_iretH (pc := 93) hX hR h rfl dX10_make_93
        · have h := ip hc11 h
          refine so_iconst (v := (-1 : Int32)) (pc := 35) hX dX10_make_35 (by decide) ?_
          exact so_iretH (pc := 36) hX hR h rfl dX10_make_36
set_option maxHeartbeats 4000000 in
set_option maxRecDepth 100000 in
theorem g_X10_isPlaced_L10 {X : Cx} (hX : Fx X cX10_isPlaced RX10 5) (hL : (xV X).2.2.2 = lyM) (hn : xn X = 5) {rZ : Int32} {μZ : Mem} (hR : Rt X (some .boolean) μZ (some (.int rZ))) {v1 : Int32} {v2 : Int32}  {K : Int32 → Mem → Option (Int32 × Mem)} (hK : ∀ (v3 : Int32) (μ : Mem), K v3 μ = some (rZ, μZ) → Gd X 89 [(0, .ref (evA (xV X) 0)), (2, .int v2), (3, .int v3)] [] μ) : ∀ (n : Nat) (v3 : Int32) (v4 : Int32) (μ : Mem), f_X10_isPlaced_L10 v1 v2 K n v3 v4 μ = some (rZ, μZ) → Gd X 10 [(0, .ref (evA (xV X) 0)), (1, .int v1), (2, .int v2), (3, .int v3), (4, .int v4)] [] μ := by
  intro n
  induction n with
  | zero => intro _ _ _ h; rw [f_X10_isPlaced_L10] at h; cases h
  | succ n ih =>
    intro v3 v4 μ h
    rw [f_X10_isPlaced_L10] at h
    refine so_iload (pc := 10) hX dX10_isPlaced_10 4 rfl ?_
    refine so_iload_n (pc := 12) hX dX10_isPlaced_12 1 rfl ?_
    refine so_icmp_ge (pc := 13) hX 89 dX10_isPlaced_13 (by decide) (fun hc1 => ?_) (fun hc1 => ?_)
    · have h := ip hc1 h
      refine so_sub (pc := 89) (lv' := [(0, .ref (evA (xV X) 0)), (2, .int v2), (3, .int v3)]) [0, 2, 3] rfl ?_
      exact hK _ _ h
    · have h := iq hc1 h
      refine so_iload_n (pc := 16) hX dX10_isPlaced_16 3 rfl ?_
      refine so_if_eq (pc := 17) hX 89 dX10_isPlaced_17 (by decide) (fun hc2 => ?_) (fun hc2 => ?_)
      · have h := ip hc2 h
        refine so_sub (pc := 89) (lv' := [(0, .ref (evA (xV X) 0)), (2, .int v2), (3, .int v3)]) [0, 2, 3] rfl ?_
        exact hK _ _ h
      · have h := iq hc2 h
        refine so_aload_n (pc := 20) hX dX10_isPlaced_20 0 rfl ?_
        refine so_aload_n (pc := 21) hX dX10_isPlaced_21 0 rfl ?_
        refine so_gR (pc := 22) hX 51 dX10_isPlaced_22 fl_X10_164 (ekM hL rfl) (erM hL rfl) ?_
        refine so_iload (pc := 25) hX dX10_isPlaced_25 4 rfl ?_
        obtain ⟨e3, hr, h⟩ := ob h
        refine so_iald (pc := 27) hX dX10_isPlaced_27 (ekM hL rfl) (elM hL rfl) hr ?_
        obtain ⟨r5, μ4, hr, h⟩ := obd h
        refine so_callV (As := [.int e3]) (rest := []) (pc := 28) hX dX10_isPlaced_28 (c_X10_isLog hL hr) mw_X10_isLog mv_X10_isLog ml_X10_167 (ekM hL rfl) (by decide) rfl rfl rfl rfl (by omega) (by decide) (Nat.le_of_ble_eq_true rfl) ?_
        refine so_if_eq (pc := 31) hX 59 dX10_isPlaced_31 (by decide) (fun hc6 => ?_) (fun hc6 => ?_)
        · have h := ip hc6 h
          refine so_iconst (v := (0 : Int32)) (pc := 59) hX dX10_isPlaced_59 (by decide) ?_
          refine so_istore_n (pc := 60) hX dX10_isPlaced_60 [(3, .int (0 : Int32)), (0, .ref (evA (xV X) 0)), (1, .int v1), (2, .int v2), (4, .int v4)] (by rw [hn]; decide) rfl ?_
          refine so_iload_n (pc := 61) hX dX10_isPlaced_61 0 rfl ?_
          refine so_if_eq (pc := 62) hX 83 dX10_isPlaced_62 (by decide) (fun _ => ?_) (fun hz => absurd hz (by decide))
          refine so_iinc (pc := 83) hX dX10_isPlaced_83 4 (1 : Int32) [(4, .int (v4 + (1 : Int32))), (3, .int (0 : Int32)), (0, .ref (evA (xV X) 0)), (1, .int v1), (2, .int v2)] rfl (by decide) (by rw [hn]; decide) rfl ?_
          refine so_goto (pc := 86) hX 10 dX10_isPlaced_86 (by decide) ?_
          refine so_sub (pc := 10) (lv' := [(0, .ref (evA (xV X) 0)), (1, .int v1), (2, .int v2), (3, .int (0 : Int32)), (4, .int (v4 + (1 : Int32)))]) [2, 3, 4, 1, 0] rfl ?_
          exact ih _ _ _ h
        · have h := iq hc6 h
          refine so_aload_n (pc := 34) hX dX10_isPlaced_34 0 rfl ?_
          refine so_aload_n (pc := 35) hX dX10_isPlaced_35 0 rfl ?_
          refine so_gR (pc := 36) hX 50 dX10_isPlaced_36 fl_X10_161 (ekM hL rfl) (erM hL rfl) ?_
          refine so_iload (pc := 39) hX dX10_isPlaced_39 4 rfl ?_
          obtain ⟨e7, hr, h⟩ := ob h
          refine so_iald (pc := 41) hX dX10_isPlaced_41 (ekM hL rfl) (elM hL rfl) hr ?_
          refine so_aload_n (pc := 42) hX dX10_isPlaced_42 0 rfl ?_
          refine so_gR (pc := 43) hX 51 dX10_isPlaced_43 fl_X10_164 (ekM hL rfl) (erM hL rfl) ?_
          refine so_iload (pc := 46) hX dX10_isPlaced_46 4 rfl ?_
          obtain ⟨e8, hr, h⟩ := ob h
          refine so_iald (pc := 48) hX dX10_isPlaced_48 (ekM hL rfl) (elM hL rfl) hr ?_
          obtain ⟨r10, μ9, hr, h⟩ := obd h
          refine so_callV (As := [.int e7, .int e8]) (rest := []) (pc := 49) hX dX10_isPlaced_49 (c_X10_places hL hr) mw_X10_places mv_X10_places ml_X10_324 (ekM hL rfl) (by decide) rfl rfl rfl rfl (by omega) (by decide) (Nat.le_of_ble_eq_true rfl) ?_
          refine so_if_eq (pc := 52) hX 59 dX10_isPlaced_52 (by decide) (fun hc11 => ?_) (fun hc11 => ?_)
          · have h := ip hc11 h
            refine so_iconst (v := (0 : Int32)) (pc := 59) hX dX10_isPlaced_59 (by decide) ?_
            refine so_istore_n (pc := 60) hX dX10_isPlaced_60 [(3, .int (0 : Int32)), (0, .ref (evA (xV X) 0)), (1, .int v1), (2, .int v2), (4, .int v4)] (by rw [hn]; decide) rfl ?_
            refine so_iload_n (pc := 61) hX dX10_isPlaced_61 0 rfl ?_
            refine so_if_eq (pc := 62) hX 83 dX10_isPlaced_62 (by decide) (fun _ => ?_) (fun hz => absurd hz (by decide))
            refine so_iinc (pc := 83) hX dX10_isPlaced_83 4 (1 : Int32) [(4, .int (v4 + (1 : Int32))), (3, .int (0 : Int32)), (0, .ref (evA (xV X) 0)), (1, .int v1), (2, .int v2)] rfl (by decide) (by rw [hn]; decide) rfl ?_
            refine so_goto (pc := 86) hX 10 dX10_isPlaced_86 (by decide) ?_
            refine so_sub (pc := 10) (lv' := [(0, .ref (evA (xV X) 0)), (1, .int v1), (2, .int v2), (3, .int (0 : Int32)), (4, .int (v4 + (1 : Int32)))]) [2, 3, 4, 1, 0] rfl ?_
            exact ih _ _ _ h
          · have h := iq hc11 h
            refine so_iconst (v := (1 : Int32)) (pc := 55) hX dX10_isPlaced_55 (by decide) ?_
            refine so_goto (pc := 56) hX 60 dX10_isPlaced_56 (by decide) ?_
            refine so_istore_n (pc := 60) hX dX10_isPlaced_60 [(3, .int (1 : Int32)), (0, .ref (evA (xV X) 0)), (1, .int v1), (2, .int v2), (4, .int v4)] (by rw [hn]; decide) rfl ?_
            refine so_iload_n (pc := 61) hX dX10_isPlaced_61 0 rfl ?_
            refine so_if_eq (pc := 62) hX 83 dX10_isPlaced_62 (by decide) (fun hz => absurd hz (by decide)) (fun _ => ?_)
            refine so_aload_n (pc := 65) hX dX10_isPlaced_65 1 rfl ?_
            refine so_aload_n (pc := 66) hX dX10_isPlaced_66 1 rfl ?_
            refine so_gR (pc := 67) hX 50 dX10_isPlaced_67 fl_X10_161 (ekM hL rfl) (erM hL rfl) ?_
            refine so_iload (pc := 70) hX dX10_isPlaced_70 4 rfl ?_
            obtain ⟨e12, hr, h⟩ := ob h
            refine so_iald (pc := 72) hX dX10_isPlaced_72 (ekM hL rfl) (elM hL rfl) hr ?_
            refine so_aload_n (pc := 73) hX dX10_isPlaced_73 1 rfl ?_
            refine so_gR (pc := 74) hX 51 dX10_isPlaced_74 fl_X10_164 (ekM hL rfl) (erM hL rfl) ?_
            refine so_iload (pc := 77) hX dX10_isPlaced_77 4 rfl ?_
            obtain ⟨e13, hr, h⟩ := ob h
            refine so_iald (pc := 79) hX dX10_isPlaced_79 (ekM hL rfl) (elM hL rfl) hr ?_
            obtain ⟨μ14, hr, h⟩ := ob h
            refine so_callV (As := [.int e12, .int e13]) (rest := []) (pc := 80) hX dX10_isPlaced_80 (c_X10_cuts hL hr) mw_X10_cuts mv_X10_cuts ml_X10_327 (ekM hL rfl) (by decide) rfl rfl rfl rfl (by omega) (by decide) (Nat.le_of_ble_eq_true rfl) ?_
            refine so_iinc (pc := 83) hX dX10_isPlaced_83 4 (1 : Int32) [(4, .int (v4 + (1 : Int32))), (3, .int (1 : Int32)), (0, .ref (evA (xV X) 0)), (1, .int v1), (2, .int v2)] rfl (by decide) (by rw [hn]; decide) rfl ?_
            refine so_goto (pc := 86) hX 10 dX10_isPlaced_86 (by decide) ?_
            refine so_sub (pc := 10) (lv' := [(0, .ref (evA (xV X) 0)), (1, .int v1), (2, .int v2), (3, .int (1 : Int32)), (4, .int (v4 + (1 : Int32)))]) [2, 3, 4, 1, 0] rfl ?_
            exact ih _ _ _ h
set_option maxHeartbeats 4000000 in
set_option maxRecDepth 100000 in
theorem c_X10_isPlaced {l : Launch} {V : Ev} (hL : V.2.2.2 = lyM) {v1 : Int32}  {μ : Mem} {rZ : Int32} {μZ : Mem} (h : f_X10_isPlaced v1 μ = some (rZ, μZ)) : CT l V yX10_isPlaced cX10_isPlaced 5 (some .boolean) 5 [.ref (evA V 0), .int v1] μ μZ (some (.int rZ)) := by
  refine so_met [(0, .ref (evA V 0)), (1, .int v1)] (by decide) (Nat.le_of_ble_eq_true rfl) (evMn hL) rfl ?_
  intro X hl hV hn hX hR
  subst hl hV
  unfold f_X10_isPlaced at h
  refine so_aload_n (pc := 0) hX dX10_isPlaced_0 0 rfl ?_
  refine so_gI (pc := 1) hX dX10_isPlaced_1 fl_X10_171 (ekM hL rfl) ?_
  refine so_istore_n (pc := 4) hX dX10_isPlaced_4 [(2, .int (μ.1 0 15)), (0, .ref (evA (xV X) 0)), (1, .int v1)] (by rw [hn]; decide) rfl ?_
  refine so_iconst (v := (1 : Int32)) (pc := 5) hX dX10_isPlaced_5 (by decide) ?_
  refine so_istore_n (pc := 6) hX dX10_isPlaced_6 [(3, .int (1 : Int32)), (2, .int (μ.1 0 15)), (0, .ref (evA (xV X) 0)), (1, .int v1)] (by rw [hn]; decide) rfl ?_
  refine so_iconst (v := (0 : Int32)) (pc := 7) hX dX10_isPlaced_7 (by decide) ?_
  refine so_istore (pc := 8) hX dX10_isPlaced_8 [(4, .int (0 : Int32)), (3, .int (1 : Int32)), (2, .int (μ.1 0 15)), (0, .ref (evA (xV X) 0)), (1, .int v1)] (by rw [hn]; decide) rfl ?_
  refine so_sub (pc := 10) (lv' := [(0, .ref (evA (xV X) 0)), (1, .int v1), (2, .int (μ.1 0 15)), (3, .int (1 : Int32)), (4, .int (0 : Int32))]) [3, 4, 2, 1, 0] rfl ?_
  refine g_X10_isPlaced_L10 hX hL hn hR (fun w15 μ16 h => ?_) FU _ _ _ h
  refine so_aload_n (pc := 89) hX dX10_isPlaced_89 0 rfl ?_
  refine so_iload_n (pc := 90) hX dX10_isPlaced_90 1 rfl ?_
  refine so_pI (pc := 91) hX dX10_isPlaced_91 fl_X10_171 fw_10_15 (ekM hL rfl) rfl rfl ?_
  refine so_iload_n (pc := 94) hX dX10_isPlaced_94 2 rfl ?_
  exact so_zretH (pc := 95) hX hR h dX10_isPlaced_95
set_option maxHeartbeats 4000000 in
set_option maxRecDepth 100000 in
theorem g_X10_logsOf_L4 {X : Cx} (hX : Fx X cX10_logsOf RX10 0) (hL : (xV X).2.2.2 = lyM) (hn : xn X = 4) {rZ : Int32} {μZ : Mem} (hR : Rt X (some .int) μZ (some (.int rZ))) {v1 : Int32}  {K : Int32 → Mem → Option (Int32 × Mem)} (hK : ∀ (v2 : Int32) (μ : Mem), K v2 μ = some (rZ, μZ) → Gd X 26 [(2, .int v2)] [] μ) : ∀ (n : Nat) (v2 : Int32) (v3 : Int32) (μ : Mem), f_X10_logsOf_L4 v1 K n v2 v3 μ = some (rZ, μZ) → Gd X 4 [(0, .ref (evA (xV X) 0)), (1, .int v1), (2, .int v2), (3, .int v3)] [] μ := by
  intro n
  induction n with
  | zero => intro _ _ _ h; rw [f_X10_logsOf_L4] at h; cases h
  | succ n ih =>
    intro v2 v3 μ h
    rw [f_X10_logsOf_L4] at h
    refine so_iload_n (pc := 4) hX dX10_logsOf_4 3 rfl ?_
    refine so_iload_n (pc := 5) hX dX10_logsOf_5 1 rfl ?_
    refine so_icmp_ge (pc := 6) hX 26 dX10_logsOf_6 (by decide) (fun hc1 => ?_) (fun hc1 => ?_)
    · have h := ip hc1 h
      refine so_sub (pc := 26) (lv' := [(2, .int v2)]) [2] rfl ?_
      exact hK _ _ h
    · have h := iq hc1 h
      refine so_iload_n (pc := 9) hX dX10_logsOf_9 2 rfl ?_
      refine so_iconst (v := (1 : Int32)) (pc := 10) hX dX10_logsOf_10 (by decide) ?_
      refine so_aload_n (pc := 11) hX dX10_logsOf_11 0 rfl ?_
      refine so_gR (pc := 12) hX 51 dX10_logsOf_12 fl_X10_164 (ekM hL rfl) (erM hL rfl) ?_
      refine so_iload_n (pc := 15) hX dX10_logsOf_15 3 rfl ?_
      obtain ⟨e2, hr, h⟩ := ob h
      refine so_iald (pc := 16) hX dX10_logsOf_16 (ekM hL rfl) (elM hL rfl) hr ?_
      refine so_ishl (pc := 17) hX dX10_logsOf_17 ?_
      refine so_ior (pc := 18) hX dX10_logsOf_18 ?_
      refine so_istore_n (pc := 19) hX dX10_logsOf_19 [(2, .int (v2 ||| ((1 : Int32) <<< (e2 &&& 31)))), (0, .ref (evA (xV X) 0)), (1, .int v1), (3, .int v3)] (by rw [hn]; decide) rfl ?_
      refine so_iinc (pc := 20) hX dX10_logsOf_20 3 (1 : Int32) [(3, .int (v3 + (1 : Int32))), (2, .int (v2 ||| ((1 : Int32) <<< (e2 &&& 31)))), (0, .ref (evA (xV X) 0)), (1, .int v1)] rfl (by decide) (by rw [hn]; decide) rfl ?_
      refine so_goto (pc := 23) hX 4 dX10_logsOf_23 (by decide) ?_
      refine so_sub (pc := 4) (lv' := [(0, .ref (evA (xV X) 0)), (1, .int v1), (2, .int (v2 ||| ((1 : Int32) <<< (e2 &&& 31)))), (3, .int (v3 + (1 : Int32)))]) [2, 3, 1, 0] rfl ?_
      exact ih _ _ _ h
set_option maxHeartbeats 4000000 in
set_option maxRecDepth 100000 in
theorem c_X10_logsOf {l : Launch} {V : Ev} (hL : V.2.2.2 = lyM) {v1 : Int32}  {μ : Mem} {rZ : Int32} {μZ : Mem} (h : f_X10_logsOf v1 μ = some (rZ, μZ)) : CT l V yX10_logsOf cX10_logsOf 4 (some .int) 0 [.ref (evA V 0), .int v1] μ μZ (some (.int rZ)) := by
  refine so_met [(0, .ref (evA V 0)), (1, .int v1)] (by decide) (Nat.le_of_ble_eq_true rfl) (evMn hL) rfl ?_
  intro X hl hV hn hX hR
  subst hl hV
  unfold f_X10_logsOf at h
  refine so_iconst (v := (0 : Int32)) (pc := 0) hX dX10_logsOf_0 (by decide) ?_
  refine so_istore_n (pc := 1) hX dX10_logsOf_1 [(2, .int (0 : Int32)), (0, .ref (evA (xV X) 0)), (1, .int v1)] (by rw [hn]; decide) rfl ?_
  refine so_iconst (v := (0 : Int32)) (pc := 2) hX dX10_logsOf_2 (by decide) ?_
  refine so_istore_n (pc := 3) hX dX10_logsOf_3 [(3, .int (0 : Int32)), (2, .int (0 : Int32)), (0, .ref (evA (xV X) 0)), (1, .int v1)] (by rw [hn]; decide) rfl ?_
  refine so_sub (pc := 4) (lv' := [(0, .ref (evA (xV X) 0)), (1, .int v1), (2, .int (0 : Int32)), (3, .int (0 : Int32))]) [2, 3, 1, 0] rfl ?_
  refine g_X10_logsOf_L4 hX hL hn hR (fun w3 μ4 h => ?_) FU _ _ _ h
  refine so_iload_n (pc := 26) hX dX10_logsOf_26 0 rfl ?_
  refine so_iconst (v := (1 : Int32)) (pc := 27) hX dX10_logsOf_27 (by decide) ?_
  refine so_iand (pc := 28) hX dX10_logsOf_28 ?_
  refine so_iload_n (pc := 29) hX dX10_logsOf_29 0 rfl ?_
  refine so_iconst (v := (1 : Int32)) (pc := 30) hX dX10_logsOf_30 (by decide) ?_
  refine so_ishr (pc := 31) hX dX10_logsOf_31 ?_
  refine so_iconst (v := (1 : Int32)) (pc := 32) hX dX10_logsOf_32 (by decide) ?_
  refine so_iand (pc := 33) hX dX10_logsOf_33 ?_
  refine so_iadd (pc := 34) hX dX10_logsOf_34 ?_
  refine so_iload_n (pc := 35) hX dX10_logsOf_35 0 rfl ?_
  refine so_iconst (v := (2 : Int32)) (pc := 36) hX dX10_logsOf_36 (by decide) ?_
  refine so_ishr (pc := 37) hX dX10_logsOf_37 ?_
  refine so_iconst (v := (1 : Int32)) (pc := 38) hX dX10_logsOf_38 (by decide) ?_
  refine so_iand (pc := 39) hX dX10_logsOf_39 ?_
  refine so_iadd (pc := 40) hX dX10_logsOf_40 ?_
  exact so_iretH (pc := 41) hX hR h rfl dX10_logsOf_41
set_option maxHeartbeats 4000000 in
set_option maxRecDepth 100000 in
theorem g_X10_plan_L4 {X : Cx} (hX : Fx X cX10_plan RX10 6) (hL : (xV X).2.2.2 = lyM) (hn : xn X = 8) {rZ : Int32} {μZ : Mem} (hR : Rt X (some .int) μZ (some (.int rZ)))   {K : Int32 → Mem → Option (Int32 × Mem)} (hK : ∀ (v1 : Int32) (μ : Mem), K v1 μ = some (rZ, μZ) → Gd X 54 [(0, .ref (evA (xV X) 0)), (1, .int v1)] [] μ) : ∀ (n : Nat) (v1 : Int32) (v2 : Int32) (μ : Mem), f_X10_plan_L4  K n v1 v2 μ = some (rZ, μZ) → Gd X 4 [(0, .ref (evA (xV X) 0)), (1, .int v1), (2, .int v2)] [] μ := by
  intro n
  induction n with
  | zero => intro _ _ _ h; rw [f_X10_plan_L4] at h; cases h
  | succ n ih =>
    intro v1 v2 μ h
    rw [f_X10_plan_L4] at h
    refine so_iload_n (pc := 4) hX dX10_plan_4 2 rfl ?_
    refine so_bipush (v := (8 : Int32)) (pc := 5) hX dX10_plan_5 (by decide) ?_
    refine so_icmp_ge (pc := 7) hX 54 dX10_plan_7 (by decide) (fun hc1 => ?_) (fun hc1 => ?_)
    · have h := ip hc1 h
      refine so_sub (pc := 54) (lv' := [(0, .ref (evA (xV X) 0)), (1, .int v1)]) [0, 1] rfl ?_
      exact hK _ _ h
    · have h := iq hc1 h
      refine so_aload_n (pc := 10) hX dX10_plan_10 0 rfl ?_
      refine so_iload_n (pc := 11) hX dX10_plan_11 2 rfl ?_
      obtain ⟨r3, μ2, hr, h⟩ := obd h
      refine so_callV (As := [.int v2]) (rest := []) (pc := 12) hX dX10_plan_12 (c_X10_isDoor hL hr) mw_X10_isDoor mv_X10_isDoor ml_X10_276 (ekM hL rfl) (by decide) rfl rfl rfl rfl (by omega) (by decide) (Nat.le_of_ble_eq_true rfl) ?_
      refine so_if_eq (pc := 15) hX 48 dX10_plan_15 (by decide) (fun hc4 => ?_) (fun hc4 => ?_)
      · have h := ip hc4 h
        refine so_iinc (pc := 48) hX dX10_plan_48 2 (1 : Int32) [(2, .int (v2 + (1 : Int32))), (0, .ref (evA (xV X) 0)), (1, .int v1)] rfl (by decide) (by rw [hn]; decide) rfl ?_
        refine so_goto (pc := 51) hX 4 dX10_plan_51 (by decide) ?_
        refine so_sub (pc := 4) (lv' := [(0, .ref (evA (xV X) 0)), (1, .int v1), (2, .int (v2 + (1 : Int32)))]) [1, 2, 0] rfl ?_
        exact ih _ _ _ h
      · have h := iq hc4 h
        refine so_aload_n (pc := 18) hX dX10_plan_18 0 rfl ?_
        refine so_gR (pc := 19) hX 44 dX10_plan_19 fl_X10_143 (ekM hL rfl) (erM hL rfl) ?_
        refine so_iload_n (pc := 22) hX dX10_plan_22 2 rfl ?_
        obtain ⟨e5, hr, h⟩ := ob h
        refine so_iald (pc := 23) hX dX10_plan_23 (ekM hL rfl) (elM hL rfl) hr ?_
        refine so_iconst (v := (-1 : Int32)) (pc := 24) hX dX10_plan_24 (by decide) ?_
        refine so_icmp_eq (pc := 25) hX 31 dX10_plan_25 (by decide) (fun hc6 => ?_) (fun hc6 => ?_)
        · have h := ip hc6 h
          refine so_iload_n (pc := 31) hX dX10_plan_31 1 rfl ?_
          refine so_iconst (v := (3 : Int32)) (pc := 32) hX dX10_plan_32 (by decide) ?_
          refine so_icmp_ne (pc := 33) hX 38 dX10_plan_33 (by decide) (fun hc7 => ?_) (fun hc7 => ?_)
          · have h := iq hc7 h
            refine so_aload_n (pc := 38) hX dX10_plan_38 0 rfl ?_
            refine so_gR (pc := 39) hX 50 dX10_plan_39 fl_X10_161 (ekM hL rfl) (erM hL rfl) ?_
            refine so_iload_n (pc := 42) hX dX10_plan_42 1 rfl ?_
            refine so_iload_n (pc := 43) hX dX10_plan_43 2 rfl ?_
            obtain ⟨μ8, hr, h⟩ := ob h
            refine so_iast (pc := 44) hX dX10_plan_44 (ekM hL rfl) (elM hL rfl) hr ?_
            refine so_iinc (pc := 45) hX dX10_plan_45 1 (1 : Int32) [(1, .int (v1 + (1 : Int32))), (0, .ref (evA (xV X) 0)), (2, .int v2)] rfl (by decide) (by rw [hn]; decide) rfl ?_
            refine so_iinc (pc := 48) hX dX10_plan_48 2 (1 : Int32) [(2, .int (v2 + (1 : Int32))), (1, .int (v1 + (1 : Int32))), (0, .ref (evA (xV X) 0))] rfl (by decide) (by rw [hn]; decide) rfl ?_
            refine so_goto (pc := 51) hX 4 dX10_plan_51 (by decide) ?_
            refine so_sub (pc := 4) (lv' := [(0, .ref (evA (xV X) 0)), (1, .int (v1 + (1 : Int32))), (2, .int (v2 + (1 : Int32)))]) [2, 1, 0] rfl ?_
            exact ih _ _ _ h
          · have h := ip hc7 h
            refine so_iconst (v := (-1 : Int32)) (pc := 36) hX dX10_plan_36 (by decide) ?_
            exact so_iretH (pc := 37) hX hR h rfl dX10_plan_37
        · have h := iq hc6 h
          refine so_goto (pc := 28) hX 48 dX10_plan_28 (by decide) ?_
          refine so_iinc (pc := 48) hX dX10_plan_48 2 (1 : Int32) [(2, .int (v2 + (1 : Int32))), (0, .ref (evA (xV X) 0)), (1, .int v1)] rfl (by decide) (by rw [hn]; decide) rfl ?_
          refine so_goto (pc := 51) hX 4 dX10_plan_51 (by decide) ?_
          refine so_sub (pc := 4) (lv' := [(0, .ref (evA (xV X) 0)), (1, .int v1), (2, .int (v2 + (1 : Int32)))]) [1, 2, 0] rfl ?_
          exact ih _ _ _ h
set_option maxHeartbeats 4000000 in
set_option maxRecDepth 100000 in
theorem g_X10_plan_L105 {X : Cx} (hX : Fx X cX10_plan RX10 6) (hL : (xV X).2.2.2 = lyM) (hn : xn X = 8) {rZ : Int32} {μZ : Mem} (hR : Rt X (some .int) μZ (some (.int rZ))) {v1 : Int32} {v2 : Int32} {v3 : Int32} {v4 : Int32} {v5 : Int32}  {K : Mem → Option (Int32 × Mem)} (hK : ∀  (μ : Mem), K μ = some (rZ, μZ) → Gd X 133 [(0, .ref (evA (xV X) 0)), (1, .int v1), (2, .int v2), (3, .int v3), (4, .int v4), (5, .int v5)] [] μ) : ∀ (n : Nat) (v6 : Int32) (v7 : Int32) (μ : Mem), f_X10_plan_L105 v1 v2 v3 v4 v5 K n v6 v7 μ = some (rZ, μZ) → Gd X 105 [(0, .ref (evA (xV X) 0)), (1, .int v1), (2, .int v2), (3, .int v3), (4, .int v4), (5, .int v5), (6, .int v6), (7, .int v7)] [] μ := by
  intro n
  induction n with
  | zero => intro _ _ _ h; rw [f_X10_plan_L105] at h; cases h
  | succ n ih =>
    intro v6 v7 μ h
    rw [f_X10_plan_L105] at h
    refine so_iload (pc := 105) hX dX10_plan_105 7 rfl ?_
    refine so_if_lt (pc := 107) hX 133 dX10_plan_107 (by decide) (fun hc14 => ?_) (fun hc14 => ?_)
    · have h := ip hc14 h
      refine so_sub (pc := 133) (lv' := [(0, .ref (evA (xV X) 0)), (1, .int v1), (2, .int v2), (3, .int v3), (4, .int v4), (5, .int v5)]) [0, 1, 2, 3, 4, 5] rfl ?_
      exact hK _ h
    · have h := iq hc14 h
      refine so_aload_n (pc := 110) hX dX10_plan_110 0 rfl ?_
      refine so_gR (pc := 111) hX 51 dX10_plan_111 fl_X10_164 (ekM hL rfl) (erM hL rfl) ?_
      refine so_iload (pc := 114) hX dX10_plan_114 7 rfl ?_
      refine so_iload (pc := 116) hX dX10_plan_116 6 rfl ?_
      refine so_iconst (v := (3 : Int32)) (pc := 118) hX dX10_plan_118 (by decide) ?_
      refine so_irem (pc := 119) hX dX10_plan_119 (by decide) ?_
      obtain ⟨μ15, hr, h⟩ := ob h
      refine so_iast (pc := 120) hX dX10_plan_120 (ekM hL rfl) (elM hL rfl) hr ?_
      refine so_iload (pc := 121) hX dX10_plan_121 6 rfl ?_
      refine so_iconst (v := (3 : Int32)) (pc := 123) hX dX10_plan_123 (by decide) ?_
      refine so_idiv (pc := 124) hX dX10_plan_124 (by decide) ?_
      refine so_istore (pc := 125) hX dX10_plan_125 [(6, .int (v6 / (3 : Int32))), (0, .ref (evA (xV X) 0)), (1, .int v1), (2, .int v2), (3, .int v3), (4, .int v4), (5, .int v5), (7, .int v7)] (by rw [hn]; decide) rfl ?_
      refine so_iinc (pc := 127) hX dX10_plan_127 7 (-1 : Int32) [(7, .int (v7 + (-1 : Int32))), (6, .int (v6 / (3 : Int32))), (0, .ref (evA (xV X) 0)), (1, .int v1), (2, .int v2), (3, .int v3), (4, .int v4), (5, .int v5)] rfl (by decide) (by rw [hn]; decide) rfl ?_
      refine so_goto (pc := 130) hX 105 dX10_plan_130 (by decide) ?_
      refine so_sub (pc := 105) (lv' := [(0, .ref (evA (xV X) 0)), (1, .int v1), (2, .int v2), (3, .int v3), (4, .int v4), (5, .int v5), (6, .int (v6 / (3 : Int32))), (7, .int (v7 + (-1 : Int32)))]) [2, 3, 4, 5, 6, 7, 1, 0] rfl ?_
      exact ih _ _ _ h
set_option maxHeartbeats 4000000 in
set_option maxRecDepth 100000 in
theorem g_X10_plan_L90 {X : Cx} (hX : Fx X cX10_plan RX10 6) (hL : (xV X).2.2.2 = lyM) (hn : xn X = 8) {rZ : Int32} {μZ : Mem} (hR : Rt X (some .int) μZ (some (.int rZ))) {v1 : Int32} {v2 : Int32}  {K : Int32 → Int32 → Mem → Option (Int32 × Mem)} (hK : ∀ (v3 : Int32) (v4 : Int32) (μ : Mem), K v3 v4 μ = some (rZ, μZ) → Gd X 174 [(0, .ref (evA (xV X) 0)), (1, .int v1), (3, .int v3), (4, .int v4)] [] μ) : ∀ (n : Nat) (v3 : Int32) (v4 : Int32) (v5 : Int32) (μ : Mem), f_X10_plan_L90 v1 v2 K n v3 v4 v5 μ = some (rZ, μZ) → Gd X 90 [(0, .ref (evA (xV X) 0)), (1, .int v1), (2, .int v2), (3, .int v3), (4, .int v4), (5, .int v5)] [] μ := by
  intro n
  induction n with
  | zero => intro _ _ _ _ h; rw [f_X10_plan_L90] at h; cases h
  | succ n ih =>
    intro v3 v4 v5 μ h
    rw [f_X10_plan_L90] at h
    refine so_iload (pc := 90) hX dX10_plan_90 5 rfl ?_
    refine so_iload_n (pc := 92) hX dX10_plan_92 2 rfl ?_
    refine so_icmp_ge (pc := 93) hX 174 dX10_plan_93 (by decide) (fun hc13 => ?_) (fun hc13 => ?_)
    · have h := ip hc13 h
      refine so_sub (pc := 174) (lv' := [(0, .ref (evA (xV X) 0)), (1, .int v1), (3, .int v3), (4, .int v4)]) [0, 1, 3, 4] rfl ?_
      exact hK _ _ _ h
    · have h := iq hc13 h
      refine so_iload (pc := 96) hX dX10_plan_96 5 rfl ?_
      refine so_istore (pc := 98) hX dX10_plan_98 [(6, .int v5), (0, .ref (evA (xV X) 0)), (1, .int v1), (2, .int v2), (3, .int v3), (4, .int v4), (5, .int v5)] (by rw [hn]; decide) rfl ?_
      refine so_iload_n (pc := 100) hX dX10_plan_100 2 rfl ?_
      refine so_iconst (v := (1 : Int32)) (pc := 101) hX dX10_plan_101 (by decide) ?_
      refine so_isub (pc := 102) hX dX10_plan_102 ?_
      refine so_istore (pc := 103) hX dX10_plan_103 [(7, .int (v1 - (1 : Int32))), (6, .int v5), (0, .ref (evA (xV X) 0)), (1, .int v1), (2, .int v2), (3, .int v3), (4, .int v4), (5, .int v5)] (by rw [hn]; decide) rfl ?_
      refine so_sub (pc := 105) (lv' := [(0, .ref (evA (xV X) 0)), (1, .int v1), (2, .int v2), (3, .int v3), (4, .int v4), (5, .int v5), (6, .int v5), (7, .int (v1 - (1 : Int32)))]) [2, 3, 4, 5, 6, 7, 1, 0] rfl ?_
      refine g_X10_plan_L105 hX hL hn hR (fun μ16 h => ?_) FU _ _ _ h
      refine so_iload_n (pc := 133) hX dX10_plan_133 3 rfl ?_
      refine so_iconst (v := (-1 : Int32)) (pc := 134) hX dX10_plan_134 (by decide) ?_
      refine so_icmp_eq (pc := 135) hX 147 dX10_plan_135 (by decide) (fun hc17 => ?_) (fun hc17 => ?_)
      · have h := ip hc17 h
        refine so_aload_n (pc := 147) hX dX10_plan_147 0 rfl ?_
        refine so_iload_n (pc := 148) hX dX10_plan_148 1 rfl ?_
        obtain ⟨r19, μ18, hr, h⟩ := obd h
        refine so_callV (As := [.int v1]) (rest := []) (pc := 149) hX dX10_plan_149 (c_X10_isPlaced hL hr) mw_X10_isPlaced mv_X10_isPlaced ml_X10_333 (ekM hL rfl) (by decide) rfl rfl rfl rfl (by omega) (by decide) (Nat.le_of_ble_eq_true rfl) ?_
        refine so_if_ne (pc := 152) hX 158 dX10_plan_152 (by decide) (fun hc20 => ?_) (fun hc20 => ?_)
        · have h := iq hc20 h
          refine so_aload_n (pc := 158) hX dX10_plan_158 0 rfl ?_
          refine so_iload_n (pc := 159) hX dX10_plan_159 1 rfl ?_
          obtain ⟨r22, μ21, hr, h⟩ := obd h
          refine so_callV (As := [.int v1]) (rest := []) (pc := 160) hX dX10_plan_160 (c_X10_logsOf hL hr) mw_X10_logsOf mv_X10_logsOf ml_X10_330 (ekM hL rfl) (by decide) rfl rfl rfl rfl (by omega) (by decide) (Nat.le_of_ble_eq_true rfl) ?_
          refine so_istore_n (pc := 163) hX dX10_plan_163 [(3, .int r22), (0, .ref (evA (xV X) 0)), (1, .int v1), (2, .int v2), (4, .int v4), (5, .int v5)] (by rw [hn]; decide) rfl ?_
          refine so_iload (pc := 164) hX dX10_plan_164 5 rfl ?_
          refine so_istore (pc := 166) hX dX10_plan_166 [(4, .int v5), (3, .int r22), (0, .ref (evA (xV X) 0)), (1, .int v1), (2, .int v2), (5, .int v5)] (by rw [hn]; decide) rfl ?_
          refine so_iinc (pc := 168) hX dX10_plan_168 5 (1 : Int32) [(5, .int (v5 + (1 : Int32))), (4, .int v5), (3, .int r22), (0, .ref (evA (xV X) 0)), (1, .int v1), (2, .int v2)] rfl (by decide) (by rw [hn]; decide) rfl ?_
          refine so_goto (pc := 171) hX 90 dX10_plan_171 (by decide) ?_
          refine so_sub (pc := 90) (lv' := [(0, .ref (evA (xV X) 0)), (1, .int v1), (2, .int v2), (3, .int r22), (4, .int v5), (5, .int (v5 + (1 : Int32)))]) [3, 4, 5, 2, 1, 0] rfl ?_
          exact ih _ _ _ _ h
        · have h := ip hc20 h
          refine so_goto (pc := 155) hX 168 dX10_plan_155 (by decide) ?_
          refine so_iinc (pc := 168) hX dX10_plan_168 5 (1 : Int32) [(5, .int (v5 + (1 : Int32))), (0, .ref (evA (xV X) 0)), (1, .int v1), (2, .int v2), (3, .int v3), (4, .int v4)] rfl (by decide) (by rw [hn]; decide) rfl ?_
          refine so_goto (pc := 171) hX 90 dX10_plan_171 (by decide) ?_
          refine so_sub (pc := 90) (lv' := [(0, .ref (evA (xV X) 0)), (1, .int v1), (2, .int v2), (3, .int v3), (4, .int v4), (5, .int (v5 + (1 : Int32)))]) [1, 2, 3, 4, 5, 0] rfl ?_
          exact ih _ _ _ _ h
      · have h := iq hc17 h
        refine so_aload_n (pc := 138) hX dX10_plan_138 0 rfl ?_
        refine so_iload_n (pc := 139) hX dX10_plan_139 1 rfl ?_
        obtain ⟨r24, μ23, hr, h⟩ := obd h
        refine so_callV (As := [.int v1]) (rest := []) (pc := 140) hX dX10_plan_140 (c_X10_logsOf hL hr) mw_X10_logsOf mv_X10_logsOf ml_X10_330 (ekM hL rfl) (by decide) rfl rfl rfl rfl (by omega) (by decide) (Nat.le_of_ble_eq_true rfl) ?_
        refine so_iload_n (pc := 143) hX dX10_plan_143 3 rfl ?_
        refine so_icmp_ge (pc := 144) hX 168 dX10_plan_144 (by decide) (fun hc25 => ?_) (fun hc25 => ?_)
        · have h := ip hc25 h
          refine so_iinc (pc := 168) hX dX10_plan_168 5 (1 : Int32) [(5, .int (v5 + (1 : Int32))), (0, .ref (evA (xV X) 0)), (1, .int v1), (2, .int v2), (3, .int v3), (4, .int v4)] rfl (by decide) (by rw [hn]; decide) rfl ?_
          refine so_goto (pc := 171) hX 90 dX10_plan_171 (by decide) ?_
          refine so_sub (pc := 90) (lv' := [(0, .ref (evA (xV X) 0)), (1, .int v1), (2, .int v2), (3, .int v3), (4, .int v4), (5, .int (v5 + (1 : Int32)))]) [1, 2, 3, 4, 5, 0] rfl ?_
          exact ih _ _ _ _ h
        · have h := iq hc25 h
          refine so_aload_n (pc := 147) hX dX10_plan_147 0 rfl ?_
          refine so_iload_n (pc := 148) hX dX10_plan_148 1 rfl ?_
          obtain ⟨r27, μ26, hr, h⟩ := obd h
          refine so_callV (As := [.int v1]) (rest := []) (pc := 149) hX dX10_plan_149 (c_X10_isPlaced hL hr) mw_X10_isPlaced mv_X10_isPlaced ml_X10_333 (ekM hL rfl) (by decide) rfl rfl rfl rfl (by omega) (by decide) (Nat.le_of_ble_eq_true rfl) ?_
          refine so_if_ne (pc := 152) hX 158 dX10_plan_152 (by decide) (fun hc28 => ?_) (fun hc28 => ?_)
          · have h := iq hc28 h
            refine so_aload_n (pc := 158) hX dX10_plan_158 0 rfl ?_
            refine so_iload_n (pc := 159) hX dX10_plan_159 1 rfl ?_
            obtain ⟨r30, μ29, hr, h⟩ := obd h
            refine so_callV (As := [.int v1]) (rest := []) (pc := 160) hX dX10_plan_160 (c_X10_logsOf hL hr) mw_X10_logsOf mv_X10_logsOf ml_X10_330 (ekM hL rfl) (by decide) rfl rfl rfl rfl (by omega) (by decide) (Nat.le_of_ble_eq_true rfl) ?_
            refine so_istore_n (pc := 163) hX dX10_plan_163 [(3, .int r30), (0, .ref (evA (xV X) 0)), (1, .int v1), (2, .int v2), (4, .int v4), (5, .int v5)] (by rw [hn]; decide) rfl ?_
            refine so_iload (pc := 164) hX dX10_plan_164 5 rfl ?_
            refine so_istore (pc := 166) hX dX10_plan_166 [(4, .int v5), (3, .int r30), (0, .ref (evA (xV X) 0)), (1, .int v1), (2, .int v2), (5, .int v5)] (by rw [hn]; decide) rfl ?_
            refine so_iinc (pc := 168) hX dX10_plan_168 5 (1 : Int32) [(5, .int (v5 + (1 : Int32))), (4, .int v5), (3, .int r30), (0, .ref (evA (xV X) 0)), (1, .int v1), (2, .int v2)] rfl (by decide) (by rw [hn]; decide) rfl ?_
            refine so_goto (pc := 171) hX 90 dX10_plan_171 (by decide) ?_
            refine so_sub (pc := 90) (lv' := [(0, .ref (evA (xV X) 0)), (1, .int v1), (2, .int v2), (3, .int r30), (4, .int v5), (5, .int (v5 + (1 : Int32)))]) [3, 4, 5, 2, 1, 0] rfl ?_
            exact ih _ _ _ _ h
          · have h := ip hc28 h
            refine so_goto (pc := 155) hX 168 dX10_plan_155 (by decide) ?_
            refine so_iinc (pc := 168) hX dX10_plan_168 5 (1 : Int32) [(5, .int (v5 + (1 : Int32))), (0, .ref (evA (xV X) 0)), (1, .int v1), (2, .int v2), (3, .int v3), (4, .int v4)] rfl (by decide) (by rw [hn]; decide) rfl ?_
            refine so_goto (pc := 171) hX 90 dX10_plan_171 (by decide) ?_
            refine so_sub (pc := 90) (lv' := [(0, .ref (evA (xV X) 0)), (1, .int v1), (2, .int v2), (3, .int v3), (4, .int v4), (5, .int (v5 + (1 : Int32)))]) [1, 2, 3, 4, 5, 0] rfl ?_
            exact ih _ _ _ _ h
set_option maxHeartbeats 4000000 in
set_option maxRecDepth 100000 in
theorem g_X10_plan_L185 {X : Cx} (hX : Fx X cX10_plan RX10 6) (hL : (xV X).2.2.2 = lyM) (hn : xn X = 8) {rZ : Int32} {μZ : Mem} (hR : Rt X (some .int) μZ (some (.int rZ))) {v1 : Int32} {v3 : Int32} {v4 : Int32}  {K : Mem → Option (Int32 × Mem)} (hK : ∀  (μ : Mem), K μ = some (rZ, μZ) → Gd X 206 [(0, .ref (evA (xV X) 0)), (1, .int v1), (3, .int v3), (4, .int v4)] [] μ) : ∀ (n : Nat) (v5 : Int32) (μ : Mem), f_X10_plan_L185 v1 v3 v4 K n v5 μ = some (rZ, μZ) → Gd X 185 [(0, .ref (evA (xV X) 0)), (1, .int v1), (3, .int v3), (4, .int v4), (5, .int v5)] [] μ := by
  intro n
  induction n with
  | zero => intro _ _ h; rw [f_X10_plan_L185] at h; cases h
  | succ n ih =>
    intro v5 μ h
    rw [f_X10_plan_L185] at h
    refine so_iload (pc := 185) hX dX10_plan_185 4 rfl ?_
    refine so_bipush (v := (8 : Int32)) (pc := 187) hX dX10_plan_187 (by decide) ?_
    refine so_icmp_ge (pc := 189) hX 206 dX10_plan_189 (by decide) (fun hc35 => ?_) (fun hc35 => ?_)
    · have h := ip hc35 h
      refine so_sub (pc := 206) (lv' := [(0, .ref (evA (xV X) 0)), (1, .int v1), (3, .int v3), (4, .int v4)]) [0, 1, 2, 3] rfl ?_
      exact hK _ h
    · have h := iq hc35 h
      refine so_aload_n (pc := 192) hX dX10_plan_192 0 rfl ?_
      refine so_gR (pc := 193) hX 49 dX10_plan_193 fl_X10_158 (ekM hL rfl) (erM hL rfl) ?_
      refine so_iload (pc := 196) hX dX10_plan_196 4 rfl ?_
      refine so_iconst (v := (-1 : Int32)) (pc := 198) hX dX10_plan_198 (by decide) ?_
      obtain ⟨μ36, hr, h⟩ := ob h
      refine so_iast (pc := 199) hX dX10_plan_199 (ekM hL rfl) (elM hL rfl) hr ?_
      refine so_iinc (pc := 200) hX dX10_plan_200 4 (1 : Int32) [(5, .int (v5 + (1 : Int32))), (0, .ref (evA (xV X) 0)), (1, .int v1), (3, .int v3), (4, .int v4)] rfl (by decide) (by rw [hn]; decide) rfl ?_
      refine so_goto (pc := 203) hX 185 dX10_plan_203 (by decide) ?_
      refine so_sub (pc := 185) (lv' := [(0, .ref (evA (xV X) 0)), (1, .int v1), (3, .int v3), (4, .int v4), (5, .int (v5 + (1 : Int32)))]) [1, 2, 3, 4, 0] rfl ?_
      exact ih _ _ h
set_option maxHeartbeats 4000000 in
set_option maxRecDepth 100000 in
theorem g_X10_plan_L211 {X : Cx} (hX : Fx X cX10_plan RX10 6) (hL : (xV X).2.2.2 = lyM) (hn : xn X = 8) {rZ : Int32} {μZ : Mem} (hR : Rt X (some .int) μZ (some (.int rZ))) {v3 : Int32}  {K : Mem → Option (Int32 × Mem)} (hK : ∀  (μ : Mem), K μ = some (rZ, μZ) → Gd X 244 [(0, .ref (evA (xV X) 0)), (3, .int v3)] [] μ) : ∀ (n : Nat) (v4 : Int32) (v5 : Int32) (μ : Mem), f_X10_plan_L211 v3 K n v4 v5 μ = some (rZ, μZ) → Gd X 211 [(0, .ref (evA (xV X) 0)), (3, .int v3), (4, .int v4), (5, .int v5)] [] μ := by
  intro n
  induction n with
  | zero => intro _ _ _ h; rw [f_X10_plan_L211] at h; cases h
  | succ n ih =>
    intro v4 v5 μ h
    rw [f_X10_plan_L211] at h
    refine so_iload (pc := 211) hX dX10_plan_211 3 rfl ?_
    refine so_if_lt (pc := 213) hX 244 dX10_plan_213 (by decide) (fun hc38 => ?_) (fun hc38 => ?_)
    · have h := ip hc38 h
      refine so_sub (pc := 244) (lv' := [(0, .ref (evA (xV X) 0)), (3, .int v3)]) [0, 1] rfl ?_
      exact hK _ h
    · have h := iq hc38 h
      refine so_aload_n (pc := 216) hX dX10_plan_216 0 rfl ?_
      refine so_gR (pc := 217) hX 49 dX10_plan_217 fl_X10_158 (ekM hL rfl) (erM hL rfl) ?_
      refine so_aload_n (pc := 220) hX dX10_plan_220 0 rfl ?_
      refine so_gR (pc := 221) hX 50 dX10_plan_221 fl_X10_161 (ekM hL rfl) (erM hL rfl) ?_
      refine so_iload (pc := 224) hX dX10_plan_224 3 rfl ?_
      obtain ⟨e39, hr, h⟩ := ob h
      refine so_iald (pc := 226) hX dX10_plan_226 (ekM hL rfl) (elM hL rfl) hr ?_
      refine so_iload (pc := 227) hX dX10_plan_227 2 rfl ?_
      refine so_iconst (v := (3 : Int32)) (pc := 229) hX dX10_plan_229 (by decide) ?_
      refine so_irem (pc := 230) hX dX10_plan_230 (by decide) ?_
      obtain ⟨μ40, hr, h⟩ := ob h
      refine so_iast (pc := 231) hX dX10_plan_231 (ekM hL rfl) (elM hL rfl) hr ?_
      refine so_iload (pc := 232) hX dX10_plan_232 2 rfl ?_
      refine so_iconst (v := (3 : Int32)) (pc := 234) hX dX10_plan_234 (by decide) ?_
      refine so_idiv (pc := 235) hX dX10_plan_235 (by decide) ?_
      refine so_istore (pc := 236) hX dX10_plan_236 [(4, .int (v4 / (3 : Int32))), (0, .ref (evA (xV X) 0)), (3, .int v3), (5, .int v5)] (by rw [hn]; decide) rfl ?_
      refine so_iinc (pc := 238) hX dX10_plan_238 3 (-1 : Int32) [(5, .int (v5 + (-1 : Int32))), (4, .int (v4 / (3 : Int32))), (0, .ref (evA (xV X) 0)), (3, .int v3)] rfl (by decide) (by rw [hn]; decide) rfl ?_
      refine so_goto (pc := 241) hX 211 dX10_plan_241 (by decide) ?_
      refine so_sub (pc := 211) (lv' := [(0, .ref (evA (xV X) 0)), (3, .int v3), (4, .int (v4 / (3 : Int32))), (5, .int (v5 + (-1 : Int32)))]) [2, 3, 1, 0] rfl ?_
      exact ih _ _ _ h
set_option maxHeartbeats 4000000 in
set_option maxRecDepth 100000 in
theorem c_X10_plan {l : Launch} {V : Ev} (hL : V.2.2.2 = lyM)   {μ : Mem} {rZ : Int32} {μZ : Mem} (h : f_X10_plan  μ = some (rZ, μZ)) : CT l V yX10_plan cX10_plan 8 (some .int) 6 [.ref (evA V 0)] μ μZ (some (.int rZ)) := by
  refine so_met [(0, .ref (evA V 0))] (by decide) (Nat.le_of_ble_eq_true rfl) (evMn hL) rfl ?_
  intro X hl hV hn hX hR
  subst hl hV
  unfold f_X10_plan at h
  refine so_iconst (v := (0 : Int32)) (pc := 0) hX dX10_plan_0 (by decide) ?_
  refine so_istore_n (pc := 1) hX dX10_plan_1 [(1, .int (0 : Int32)), (0, .ref (evA (xV X) 0))] (by rw [hn]; decide) rfl ?_
  refine so_iconst (v := (0 : Int32)) (pc := 2) hX dX10_plan_2 (by decide) ?_
  refine so_istore_n (pc := 3) hX dX10_plan_3 [(2, .int (0 : Int32)), (1, .int (0 : Int32)), (0, .ref (evA (xV X) 0))] (by rw [hn]; decide) rfl ?_
  refine so_sub (pc := 4) (lv' := [(0, .ref (evA (xV X) 0)), (1, .int (0 : Int32)), (2, .int (0 : Int32))]) [2, 1, 0] rfl ?_
  refine g_X10_plan_L4 hX hL hn hR (fun w9 μ10 h => ?_) FU _ _ _ h
  refine so_iload_n (pc := 54) hX dX10_plan_54 1 rfl ?_
  refine so_if_ne (pc := 55) hX 60 dX10_plan_55 (by decide) (fun hc11 => ?_) (fun hc11 => ?_)
  · have h := iq hc11 h
    refine so_iload_n (pc := 60) hX dX10_plan_60 1 rfl ?_
    refine so_iconst (v := (1 : Int32)) (pc := 61) hX dX10_plan_61 (by decide) ?_
    refine so_icmp_ne (pc := 62) hX 69 dX10_plan_62 (by decide) (fun hc12 => ?_) (fun hc12 => ?_)
    · have h := iq hc12 h
      refine so_iload_n (pc := 69) hX dX10_plan_69 1 rfl ?_
      refine so_iconst (v := (2 : Int32)) (pc := 70) hX dX10_plan_70 (by decide) ?_
      refine so_icmp_ne (pc := 71) hX 79 dX10_plan_71 (by decide) (fun hc42 => ?_) (fun hc42 => ?_)
      · have h := iq hc42 h
        refine so_bipush (v := (27 : Int32)) (pc := 79) hX dX10_plan_79 (by decide) ?_
        refine so_istore_n (pc := 81) hX dX10_plan_81 [(2, .int (27 : Int32)), (0, .ref (evA (xV X) 0)), (1, .int w9)] (by rw [hn]; decide) rfl ?_
        refine so_iconst (v := (-1 : Int32)) (pc := 82) hX dX10_plan_82 (by decide) ?_
        refine so_istore_n (pc := 83) hX dX10_plan_83 [(3, .int (-1 : Int32)), (2, .int (27 : Int32)), (0, .ref (evA (xV X) 0)), (1, .int w9)] (by rw [hn]; decide) rfl ?_
        refine so_iconst (v := (-1 : Int32)) (pc := 84) hX dX10_plan_84 (by decide) ?_
        refine so_istore (pc := 85) hX dX10_plan_85 [(4, .int (-1 : Int32)), (3, .int (-1 : Int32)), (2, .int (27 : Int32)), (0, .ref (evA (xV X) 0)), (1, .int w9)] (by rw [hn]; decide) rfl ?_
        refine so_iconst (v := (0 : Int32)) (pc := 87) hX dX10_plan_87 (by decide) ?_
        refine so_istore (pc := 88) hX dX10_plan_88 [(5, .int (0 : Int32)), (4, .int (-1 : Int32)), (3, .int (-1 : Int32)), (2, .int (27 : Int32)), (0, .ref (evA (xV X) 0)), (1, .int w9)] (by rw [hn]; decide) rfl ?_
        refine so_sub (pc := 90) (lv' := [(0, .ref (evA (xV X) 0)), (1, .int w9), (2, .int (27 : Int32)), (3, .int (-1 : Int32)), (4, .int (-1 : Int32)), (5, .int (0 : Int32))]) [4, 5, 3, 2, 1, 0] rfl ?_
        refine g_X10_plan_L90 hX hL hn hR (fun w49 w50 μ51 h => ?_) FU _ _ _ _ h
        refine so_iload_n (pc := 174) hX dX10_plan_174 2 rfl ?_
        refine so_iconst (v := (-1 : Int32)) (pc := 175) hX dX10_plan_175 (by decide) ?_
        refine so_icmp_ne (pc := 176) hX 182 dX10_plan_176 (by decide) (fun hc52 => ?_) (fun hc52 => ?_)
        · have h := iq hc52 h
          refine so_iconst (v := (0 : Int32)) (pc := 182) hX dX10_plan_182 (by decide) ?_
          refine so_istore (pc := 183) hX dX10_plan_183 [(5, .int (0 : Int32)), (0, .ref (evA (xV X) 0)), (1, .int w9), (3, .int w49), (4, .int w50)] (by rw [hn]; decide) rfl ?_
          refine so_sub (pc := 185) (lv' := [(0, .ref (evA (xV X) 0)), (1, .int w9), (3, .int w49), (4, .int w50), (5, .int (0 : Int32))]) [1, 2, 3, 4, 0] rfl ?_
          refine g_X10_plan_L185 hX hL hn hR (fun μ53 h => ?_) FU _ _ h
          refine so_iload_n (pc := 206) hX dX10_plan_206 1 rfl ?_
          refine so_iconst (v := (1 : Int32)) (pc := 207) hX dX10_plan_207 (by decide) ?_
          refine so_isub (pc := 208) hX dX10_plan_208 ?_
          refine so_istore (pc := 209) hX dX10_plan_209 [(5, .int (w9 - (1 : Int32))), (0, .ref (evA (xV X) 0)), (1, .int w9), (3, .int w49), (4, .int w50)] (by rw [hn]; decide) rfl ?_
          refine so_sub (pc := 211) (lv' := [(0, .ref (evA (xV X) 0)), (3, .int w49), (4, .int w50), (5, .int (w9 - (1 : Int32)))]) [1, 3, 4, 0] rfl ?_
          refine g_X10_plan_L211 hX hL hn hR (fun μ54 h => ?_) FU _ _ _ h
          refine so_aload_n (pc := 244) hX dX10_plan_244 0 rfl ?_
          refine so_iconst (v := (1 : Int32)) (pc := 245) hX dX10_plan_245 (by decide) ?_
          refine so_pI (pc := 246) hX dX10_plan_246 fl_X10_336 fw_10_66 (ekM hL rfl) rfl rfl ?_
          refine so_iload_n (pc := 249) hX dX10_plan_249 1 rfl ?_
          exact so_iretH (pc := 250) hX hR h rfl dX10_plan_250
        · have h := ip hc52 h
          refine so_bipush (v := (-2 : Int32)) (pc := 179) hX dX10_plan_179 (by decide) ?_
          exact so_iretH (pc := 181) hX hR h rfl dX10_plan_181
      · have h := ip hc42 h
        refine so_bipush (v := (9 : Int32)) (pc := 74) hX dX10_plan_74 (by decide) ?_
        refine so_goto (pc := 76) hX 81 dX10_plan_76 (by decide) ?_
        refine so_istore_n (pc := 81) hX dX10_plan_81 [(2, .int (9 : Int32)), (0, .ref (evA (xV X) 0)), (1, .int w9)] (by rw [hn]; decide) rfl ?_
        refine so_iconst (v := (-1 : Int32)) (pc := 82) hX dX10_plan_82 (by decide) ?_
        refine so_istore_n (pc := 83) hX dX10_plan_83 [(3, .int (-1 : Int32)), (2, .int (9 : Int32)), (0, .ref (evA (xV X) 0)), (1, .int w9)] (by rw [hn]; decide) rfl ?_
        refine so_iconst (v := (-1 : Int32)) (pc := 84) hX dX10_plan_84 (by decide) ?_
        refine so_istore (pc := 85) hX dX10_plan_85 [(4, .int (-1 : Int32)), (3, .int (-1 : Int32)), (2, .int (9 : Int32)), (0, .ref (evA (xV X) 0)), (1, .int w9)] (by rw [hn]; decide) rfl ?_
        refine so_iconst (v := (0 : Int32)) (pc := 87) hX dX10_plan_87 (by decide) ?_
        refine so_istore (pc := 88) hX dX10_plan_88 [(5, .int (0 : Int32)), (4, .int (-1 : Int32)), (3, .int (-1 : Int32)), (2, .int (9 : Int32)), (0, .ref (evA (xV X) 0)), (1, .int w9)] (by rw [hn]; decide) rfl ?_
        refine so_sub (pc := 90) (lv' := [(0, .ref (evA (xV X) 0)), (1, .int w9), (2, .int (9 : Int32)), (3, .int (-1 : Int32)), (4, .int (-1 : Int32)), (5, .int (0 : Int32))]) [4, 5, 3, 2, 1, 0] rfl ?_
        refine g_X10_plan_L90 hX hL hn hR (fun w43 w44 μ45 h => ?_) FU _ _ _ _ h
        refine so_iload_n (pc := 174) hX dX10_plan_174 2 rfl ?_
        refine so_iconst (v := (-1 : Int32)) (pc := 175) hX dX10_plan_175 (by decide) ?_
        refine so_icmp_ne (pc := 176) hX 182 dX10_plan_176 (by decide) (fun hc46 => ?_) (fun hc46 => ?_)
        · have h := iq hc46 h
          refine so_iconst (v := (0 : Int32)) (pc := 182) hX dX10_plan_182 (by decide) ?_
          refine so_istore (pc := 183) hX dX10_plan_183 [(5, .int (0 : Int32)), (0, .ref (evA (xV X) 0)), (1, .int w9), (3, .int w43), (4, .int w44)] (by rw [hn]; decide) rfl ?_
          refine so_sub (pc := 185) (lv' := [(0, .ref (evA (xV X) 0)), (1, .int w9), (3, .int w43), (4, .int w44), (5, .int (0 : Int32))]) [1, 2, 3, 4, 0] rfl ?_
          refine g_X10_plan_L185 hX hL hn hR (fun μ47 h => ?_) FU _ _ h
          refine so_iload_n (pc := 206) hX dX10_plan_206 1 rfl ?_
          refine so_iconst (v := (1 : Int32)) (pc := 207) hX dX10_plan_207 (by decide) ?_
          refine so_isub (pc := 208) hX dX10_plan_208 ?_
          refine so_istore (pc := 209) hX dX10_plan_209 [(5, .int (w9 - (1 : Int32))), (0, .ref (evA (xV X) 0)), (1, .int w9), (3, .int w43), (4, .int w44)] (by rw [hn]; decide) rfl ?_
          refine so_sub (pc := 211) (lv' := [(0, .ref (evA (xV X) 0)), (3, .int w43), (4, .int w44), (5, .int (w9 - (1 : Int32)))]) [1, 3, 4, 0] rfl ?_
          refine g_X10_plan_L211 hX hL hn hR (fun μ48 h => ?_) FU _ _ _ h
          refine so_aload_n (pc := 244) hX dX10_plan_244 0 rfl ?_
          refine so_iconst (v := (1 : Int32)) (pc := 245) hX dX10_plan_245 (by decide) ?_
          refine so_pI (pc := 246) hX dX10_plan_246 fl_X10_336 fw_10_66 (ekM hL rfl) rfl rfl ?_
          refine so_iload_n (pc := 249) hX dX10_plan_249 1 rfl ?_
          exact so_iretH (pc := 250) hX hR h rfl dX10_plan_250
        · have h := ip hc46 h
          refine so_bipush (v := (-2 : Int32)) (pc := 179) hX dX10_plan_179 (by decide) ?_
          exact so_iretH (pc := 181) hX hR h rfl dX10_plan_181
    · have h := ip hc12 h
      refine so_iconst (v := (3 : Int32)) (pc := 65) hX dX10_plan_65 (by decide) ?_
      refine so_goto (pc := 66) hX 81 dX10_plan_66 (by decide) ?_
      refine so_istore_n (pc := 81) hX dX10_plan_81 [(2, .int (3 : Int32)), (0, .ref (evA (xV X) 0)), (1, .int w9)] (by rw [hn]; decide) rfl ?_
      refine so_iconst (v := (-1 : Int32)) (pc := 82) hX dX10_plan_82 (by decide) ?_
      refine so_istore_n (pc := 83) hX dX10_plan_83 [(3, .int (-1 : Int32)), (2, .int (3 : Int32)), (0, .ref (evA (xV X) 0)), (1, .int w9)] (by rw [hn]; decide) rfl ?_
      refine so_iconst (v := (-1 : Int32)) (pc := 84) hX dX10_plan_84 (by decide) ?_
      refine so_istore (pc := 85) hX dX10_plan_85 [(4, .int (-1 : Int32)), (3, .int (-1 : Int32)), (2, .int (3 : Int32)), (0, .ref (evA (xV X) 0)), (1, .int w9)] (by rw [hn]; decide) rfl ?_
      refine so_iconst (v := (0 : Int32)) (pc := 87) hX dX10_plan_87 (by decide) ?_
      refine so_istore (pc := 88) hX dX10_plan_88 [(5, .int (0 : Int32)), (4, .int (-1 : Int32)), (3, .int (-1 : Int32)), (2, .int (3 : Int32)), (0, .ref (evA (xV X) 0)), (1, .int w9)] (by rw [hn]; decide) rfl ?_
      refine so_sub (pc := 90) (lv' := [(0, .ref (evA (xV X) 0)), (1, .int w9), (2, .int (3 : Int32)), (3, .int (-1 : Int32)), (4, .int (-1 : Int32)), (5, .int (0 : Int32))]) [4, 5, 3, 2, 1, 0] rfl ?_
      refine g_X10_plan_L90 hX hL hn hR (fun w31 w32 μ33 h => ?_) FU _ _ _ _ h
      refine so_iload_n (pc := 174) hX dX10_plan_174 2 rfl ?_
      refine so_iconst (v := (-1 : Int32)) (pc := 175) hX dX10_plan_175 (by decide) ?_
      refine so_icmp_ne (pc := 176) hX 182 dX10_plan_176 (by decide) (fun hc34 => ?_) (fun hc34 => ?_)
      · have h := iq hc34 h
        refine so_iconst (v := (0 : Int32)) (pc := 182) hX dX10_plan_182 (by decide) ?_
        refine so_istore (pc := 183) hX dX10_plan_183 [(5, .int (0 : Int32)), (0, .ref (evA (xV X) 0)), (1, .int w9), (3, .int w31), (4, .int w32)] (by rw [hn]; decide) rfl ?_
        refine so_sub (pc := 185) (lv' := [(0, .ref (evA (xV X) 0)), (1, .int w9), (3, .int w31), (4, .int w32), (5, .int (0 : Int32))]) [1, 2, 3, 4, 0] rfl ?_
        refine g_X10_plan_L185 hX hL hn hR (fun μ37 h => ?_) FU _ _ h
        refine so_iload_n (pc := 206) hX dX10_plan_206 1 rfl ?_
        refine so_iconst (v := (1 : Int32)) (pc := 207) hX dX10_plan_207 (by decide) ?_
        refine so_isub (pc := 208) hX dX10_plan_208 ?_
        refine so_istore (pc := 209) hX dX10_plan_209 [(5, .int (w9 - (1 : Int32))), (0, .ref (evA (xV X) 0)), (1, .int w9), (3, .int w31), (4, .int w32)] (by rw [hn]; decide) rfl ?_
        refine so_sub (pc := 211) (lv' := [(0, .ref (evA (xV X) 0)), (3, .int w31), (4, .int w32), (5, .int (w9 - (1 : Int32)))]) [1, 3, 4, 0] rfl ?_
        refine g_X10_plan_L211 hX hL hn hR (fun μ41 h => ?_) FU _ _ _ h
        refine so_aload_n (pc := 244) hX dX10_plan_244 0 rfl ?_
        refine so_iconst (v := (1 : Int32)) (pc := 245) hX dX10_plan_245 (by decide) ?_
        refine so_pI (pc := 246) hX dX10_plan_246 fl_X10_336 fw_10_66 (ekM hL rfl) rfl rfl ?_
        refine so_iload_n (pc := 249) hX dX10_plan_249 1 rfl ?_
        exact so_iretH (pc := 250) hX hR h rfl dX10_plan_250
      · have h := ip hc34 h
        refine so_bipush (v := (-2 : Int32)) (pc := 179) hX dX10_plan_179 (by decide) ?_
        exact so_iretH (pc := 181) hX hR h rfl dX10_plan_181
  · have h := ip hc11 h
    refine so_iconst (v := (-1 : Int32)) (pc := 58) hX dX10_plan_58 (by decide) ?_
    exact so_iretH (pc := 59) hX hR h rfl dX10_plan_59
set_option maxHeartbeats 4000000 in
set_option maxRecDepth 100000 in
theorem c_X10_planned {l : Launch} {V : Ev} (hL : V.2.2.2 = lyM) {v1 : Int32}  {μ : Mem} {rZ : Int32} {μZ : Mem} (h : f_X10_planned v1 μ = some (rZ, μZ)) : CT l V yX10_planned cX10_planned 2 (some .int) 0 [.ref (evA V 0), .int v1] μ μZ (some (.int rZ)) := by
  refine so_met [(0, .ref (evA V 0)), (1, .int v1)] (by decide) (Nat.le_of_ble_eq_true rfl) (evMn hL) rfl ?_
  intro X hl hV hn hX hR
  subst hl hV
  unfold f_X10_planned at h
  refine so_aload_n (pc := 0) hX dX10_planned_0 0 rfl ?_
  refine so_gI (pc := 1) hX dX10_planned_1 fl_X10_336 (ekM hL rfl) ?_
  refine so_if_eq (pc := 4) hX 26 dX10_planned_4 (by decide) (fun hc1 => ?_) (fun hc1 => ?_)
  · have h := ip hc1 h
    refine so_iconst (v := (-1 : Int32)) (pc := 26) hX dX10_planned_26 (by decide) ?_
    exact so_iretH (pc := 27) hX hR h rfl dX10_planned_27
  · have h := iq hc1 h
    refine so_iload_n (pc := 7) hX dX10_planned_7 1 rfl ?_
    refine so_if_lt (pc := 8) hX 26 dX10_planned_8 (by decide) (fun hc2 => ?_) (fun hc2 => ?_)
    · have h := ip hc2 h
      refine so_iconst (v := (-1 : Int32)) (pc := 26) hX dX10_planned_26 (by decide) ?_
      exact so_iretH (pc := 27) hX hR h rfl dX10_planned_27
    · have h := iq hc2 h
      refine so_iload_n (pc := 11) hX dX10_planned_11 1 rfl ?_
      refine so_bipush (v := (8 : Int32)) (pc := 12) hX dX10_planned_12 (by decide) ?_
      refine so_icmp_ge (pc := 14) hX 26 dX10_planned_14 (by decide) (fun hc3 => ?_) (fun hc3 => ?_)
      · have h := ip hc3 h
        refine so_iconst (v := (-1 : Int32)) (pc := 26) hX dX10_planned_26 (by decide) ?_
        exact so_iretH (pc := 27) hX hR h rfl dX10_planned_27
      · have h := iq hc3 h
        refine so_aload_n (pc := 17) hX dX10_planned_17 0 rfl ?_
        refine so_gR (pc := 18) hX 49 dX10_planned_18 fl_X10_158 (ekM hL rfl) (erM hL rfl) ?_
        refine so_iload_n (pc := 21) hX dX10_planned_21 1 rfl ?_
        obtain ⟨e4, hr, h⟩ := ob h
        refine so_iald (pc := 22) hX dX10_planned_22 (ekM hL rfl) (elM hL rfl) hr ?_
        refine so_goto (pc := 23) hX 27 dX10_planned_23 (by decide) ?_
        exact so_iretH (pc := 27) hX hR h rfl dX10_planned_27
set_option maxHeartbeats 4000000 in
set_option maxRecDepth 100000 in
theorem c_X10_free {l : Launch} {V : Ev} (hL : V.2.2.2 = lyM) {v1 : Int32}  {μ : Mem} {rZ : Int32} {μZ : Mem} (h : f_X10_free v1 μ = some (rZ, μZ)) : CT l V yX10_free cX10_free 2 (some .boolean) 1 [.ref (evA V 0), .int v1] μ μZ (some (.int rZ)) := by
  refine so_met [(0, .ref (evA V 0)), (1, .int v1)] (by decide) (Nat.le_of_ble_eq_true rfl) (evMn hL) rfl ?_
  intro X hl hV hn hX hR
  subst hl hV
  unfold f_X10_free at h
  refine so_aload_n (pc := 0) hX dX10_free_0 0 rfl ?_
  refine so_iload_n (pc := 1) hX dX10_free_1 1 rfl ?_
  obtain ⟨r2, μ1, hr, h⟩ := obd h
  refine so_callV (As := [.int v1]) (rest := []) (pc := 2) hX dX10_free_2 (c_X10_isDoor hL hr) mw_X10_isDoor mv_X10_isDoor ml_X10_276 (ekM hL rfl) (by decide) rfl rfl rfl rfl (by omega) (by decide) (Nat.le_of_ble_eq_true rfl) ?_
  refine so_if_eq (pc := 5) hX 18 dX10_free_5 (by decide) (fun hc3 => ?_) (fun hc3 => ?_)
  · have h := ip hc3 h
    refine so_iconst (v := (0 : Int32)) (pc := 18) hX dX10_free_18 (by decide) ?_
    exact so_iretH (pc := 19) hX hR h (by decide) dX10_free_19
  · have h := iq hc3 h
    refine so_aload_n (pc := 8) hX dX10_free_8 0 rfl ?_
    refine so_gR (pc := 9) hX 44 dX10_free_9 fl_X10_143 (ekM hL rfl) (erM hL rfl) ?_
    refine so_iload_n (pc := 12) hX dX10_free_12 1 rfl ?_
    obtain ⟨e4, hr, h⟩ := ob h
    refine so_iald (pc := 13) hX dX10_free_13 (ekM hL rfl) (elM hL rfl) hr ?_
    refine so_iconst (v := (-1 : Int32)) (pc := 14) hX dX10_free_14 (by decide) ?_
    refine so_icmp_ne (pc := 15) hX 20 dX10_free_15 (by decide) (fun hc5 => ?_) (fun hc5 => ?_)
    · have h := iq hc5 h
      refine so_aload_n (pc := 20) hX dX10_free_20 0 rfl ?_
      refine so_gR (pc := 21) hX 44 dX10_free_21 fl_X10_143 (ekM hL rfl) (erM hL rfl) ?_
      refine so_iload_n (pc := 24) hX dX10_free_24 1 rfl ?_
      refine so_iconst (v := (-1 : Int32)) (pc := 25) hX dX10_free_25 (by decide) ?_
      obtain ⟨μ6, hr, h⟩ := ob h
      refine so_iast (pc := 26) hX dX10_free_26 (ekM hL rfl) (elM hL rfl) hr ?_
      refine so_aload_n (pc := 27) hX dX10_free_27 0 rfl ?_
      refine so_iconst (v := (-1 : Int32)) (pc := 28) hX dX10_free_28 (by decide) ?_
      refine so_iload_n (pc := 29) hX dX10_free_29 1 rfl ?_
      obtain ⟨μ7, hr, h⟩ := ob h
      refine so_callV (As := [.int (-1 : Int32), .int v1]) (rest := []) (pc := 30) hX dX10_free_30 (c_X10_goes hL hr) mw_X10_goes mv_X10_goes ml_X10_178 (ekM hL rfl) (by decide) rfl rfl rfl rfl (by omega) (by decide) (Nat.le_of_ble_eq_true rfl) ?_
      refine so_iconst (v := (1 : Int32)) (pc := 33) hX dX10_free_33 (by decide) ?_
      exact so_iretH (pc := 34) hX hR h (by decide) dX10_free_34
    · have h := ip hc5 h
      refine so_iconst (v := (0 : Int32)) (pc := 18) hX dX10_free_18 (by decide) ?_
      exact so_iretH (pc := 19) hX hR h (by decide) dX10_free_19
