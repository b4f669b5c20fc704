set_option maxHeartbeats 4000000 in
set_option maxRecDepth 100000 in
theorem c_X10_isLeaf {l : Launch} {V : Ev} (hL : V.2.2.2 = lyM) {v1 : Int32} {v2 : Int32}  {μ : Mem} {rZ : Int32} {μZ : Mem} (h : f_X10_isLeaf v1 v2 μ = some (rZ, μZ)) : CT l V yX10_isLeaf cX10_isLeaf 3 (some .boolean) 1 [.ref (evA V 0), .int v1, .int v2] μ μZ (some (.int rZ)) := by
  refine so_met [(0, .ref (evA V 0)), (1, .int v1), (2, .int v2)] (by decide) (Nat.le_of_ble_eq_true rfl) (evMn hL) rfl ?_
  intro X hl hV hn hX hR
  subst hl hV
  unfold f_X10_isLeaf at h
  refine so_aload_n (pc := 0) hX dX10_isLeaf_0 0 rfl ?_
  refine so_iload_n (pc := 1) hX dX10_isLeaf_1 1 rfl ?_
  obtain ⟨r2, μ1, hr, h⟩ := obd h
  refine so_callV (As := [.int v1]) (rest := []) (pc := 2) hX dX10_isLeaf_2 (c_X10_isLog hL hr) mw_X10_isLog mv_X10_isLog ml_X10_167 (ekM hL rfl) (by decide) rfl rfl rfl rfl (by omega) (by decide) (Nat.le_of_ble_eq_true rfl) ?_
  refine so_if_eq (pc := 5) hX 26 dX10_isLeaf_5 (by decide) (fun hc3 => ?_) (fun hc3 => ?_)
  · have h := ip hc3 h
    refine so_iconst (v := (0 : Int32)) (pc := 26) hX dX10_isLeaf_26 (by decide) ?_
    exact so_iretH (pc := 27) hX hR h (by decide) dX10_isLeaf_27
  · have h := iq hc3 h
    refine so_iload_n (pc := 8) hX dX10_isLeaf_8 2 rfl ?_
    refine so_if_lt (pc := 9) hX 26 dX10_isLeaf_9 (by decide) (fun hc4 => ?_) (fun hc4 => ?_)
    · have h := ip hc4 h
      refine so_iconst (v := (0 : Int32)) (pc := 26) hX dX10_isLeaf_26 (by decide) ?_
      exact so_iretH (pc := 27) hX hR h (by decide) dX10_isLeaf_27
    · have h := iq hc4 h
      refine so_iload_n (pc := 12) hX dX10_isLeaf_12 2 rfl ?_
      refine so_aload_n (pc := 13) hX dX10_isLeaf_13 0 rfl ?_
      refine so_gR (pc := 14) hX 1 dX10_isLeaf_14 fl_X10_7 (ekM hL rfl) (erM hL rfl) ?_
      refine so_iload_n (pc := 17) hX dX10_isLeaf_17 1 rfl ?_
      obtain ⟨e5, hr, h⟩ := ob h
      refine so_iald (pc := 18) hX dX10_isLeaf_18 (ekM hL rfl) (elM hL rfl) hr ?_
      refine so_icmp_ge (pc := 19) hX 26 dX10_isLeaf_19 (by decide) (fun hc6 => ?_) (fun hc6 => ?_)
      · have h := ip hc6 h
        refine so_iconst (v := (0 : Int32)) (pc := 26) hX dX10_isLeaf_26 (by decide) ?_
        exact so_iretH (pc := 27) hX hR h (by decide) dX10_isLeaf_27
      · have h := iq hc6 h
        refine so_iconst (v := (1 : Int32)) (pc := 22) hX dX10_isLeaf_22 (by decide) ?_
        refine so_goto (pc := 23) hX 27 dX10_isLeaf_23 (by decide) ?_
        exact so_iretH (pc := 27) hX hR h (by decide) dX10_isLeaf_27
set_option maxHeartbeats 4000000 in
set_option maxRecDepth 100000 in
theorem c_X10_widthOf {l : Launch} {V : Ev} (hL : V.2.2.2 = lyM) {v1 : Int32} {v2 : Int32}  {μ : Mem} {rZ : Int32} {μZ : Mem} (h : f_X10_widthOf v1 v2 μ = some (rZ, μZ)) : CT l V yX10_widthOf cX10_widthOf 4 (some .int) 0 [.ref (evA V 0), .int v1, .int v2] μ μZ (some (.int rZ)) := by
  refine so_met [(0, .ref (evA V 0)), (1, .int v1), (2, .int v2)] (by decide) (Nat.le_of_ble_eq_true rfl) (evMn hL) rfl ?_
  intro X hl hV hn hX hR
  subst hl hV
  unfold f_X10_widthOf at h
  refine so_aload_n (pc := 0) hX dX10_widthOf_0 0 rfl ?_
  refine so_gR (pc := 1) hX 3 dX10_widthOf_1 fl_X10_16 (ekM hL rfl) (erM hL rfl) ?_
  refine so_iload_n (pc := 4) hX dX10_widthOf_4 1 rfl ?_
  obtain ⟨e1, hr, h⟩ := ob h
  refine so_iald (pc := 5) hX dX10_widthOf_5 (ekM hL rfl) (elM hL rfl) hr ?_
  refine so_iload_n (pc := 6) hX dX10_widthOf_6 2 rfl ?_
  refine so_aload_n (pc := 7) hX dX10_widthOf_7 0 rfl ?_
  refine so_gR (pc := 8) hX 4 dX10_widthOf_8 fl_X10_19 (ekM hL rfl) (erM hL rfl) ?_
  refine so_iload_n (pc := 11) hX dX10_widthOf_11 1 rfl ?_
  obtain ⟨e2, hr, h⟩ := ob h
  refine so_iald (pc := 12) hX dX10_widthOf_12 (ekM hL rfl) (elM hL rfl) hr ?_
  refine so_imul (pc := 13) hX dX10_widthOf_13 ?_
  refine so_iadd (pc := 14) hX dX10_widthOf_14 ?_
  refine so_istore_n (pc := 15) hX dX10_widthOf_15 [(3, .int (e1 + (v2 * e2))), (0, .ref (evA (xV X) 0)), (1, .int v1), (2, .int v2)] (by rw [hn]; decide) rfl ?_
  refine so_iload_n (pc := 16) hX dX10_widthOf_16 0 rfl ?_
  refine so_iconst (v := (1 : Int32)) (pc := 17) hX dX10_widthOf_17 (by decide) ?_
  refine so_icmp_ge (pc := 18) hX 25 dX10_widthOf_18 (by decide) (fun hc3 => ?_) (fun hc3 => ?_)
  · have h := ip hc3 h
    refine so_iload_n (pc := 25) hX dX10_widthOf_25 0 rfl ?_
    exact so_iretH (pc := 26) hX hR h rfl dX10_widthOf_26
  · have h := iq hc3 h
    refine so_iconst (v := (1 : Int32)) (pc := 21) hX dX10_widthOf_21 (by decide) ?_
    refine so_goto (pc := 22) hX 26 dX10_widthOf_22 (by decide) ?_
    exact so_iretH (pc := 26) hX hR h rfl dX10_widthOf_26
set_option maxHeartbeats 4000000 in
set_option maxRecDepth 100000 in
theorem c_X10_toneOf {l : Launch} {V : Ev} (hL : V.2.2.2 = lyM) {v1 : Int32} {v2 : Int32}  {μ : Mem} {rZ : Int32} {μZ : Mem} (h : f_X10_toneOf v1 v2 μ = some (rZ, μZ)) : CT l V yX10_toneOf cX10_toneOf 3 (some .int) 0 [.ref (evA V 0), .int v1, .int v2] μ μZ (some (.int rZ)) := by
  refine so_met [(0, .ref (evA V 0)), (1, .int v1), (2, .int v2)] (by decide) (Nat.le_of_ble_eq_true rfl) (evMn hL) rfl ?_
  intro X hl hV hn hX hR
  subst hl hV
  unfold f_X10_toneOf at h
  refine so_aload_n (pc := 0) hX dX10_toneOf_0 0 rfl ?_
  refine so_gR (pc := 1) hX 5 dX10_toneOf_1 fl_X10_22 (ekM hL rfl) (erM hL rfl) ?_
  refine so_iload_n (pc := 4) hX dX10_toneOf_4 1 rfl ?_
  obtain ⟨e1, hr, h⟩ := ob h
  refine so_iald (pc := 5) hX dX10_toneOf_5 (ekM hL rfl) (elM hL rfl) hr ?_
  refine so_iload_n (pc := 6) hX dX10_toneOf_6 2 rfl ?_
  refine so_aload_n (pc := 7) hX dX10_toneOf_7 0 rfl ?_
  refine so_gR (pc := 8) hX 6 dX10_toneOf_8 fl_X10_25 (ekM hL rfl) (erM hL rfl) ?_
  refine so_iload_n (pc := 11) hX dX10_toneOf_11 1 rfl ?_
  obtain ⟨e2, hr, h⟩ := ob h
  refine so_iald (pc := 12) hX dX10_toneOf_12 (ekM hL rfl) (elM hL rfl) hr ?_
  refine so_imul (pc := 13) hX dX10_toneOf_13 ?_
  refine so_iadd (pc := 14) hX dX10_toneOf_14 ?_
  exact so_iretH (pc := 15) hX hR h rfl dX10_toneOf_15
set_option maxHeartbeats 4000000 in
set_option maxRecDepth 100000 in
theorem g_X10_goes_L5 {X : Cx} (hX : Fx X cX10_goes RX10 0) (hL : (xV X).2.2.2 = lyM) (hn : xn X = 5) {μZ : Mem} (hR : Rt X none μZ none) {v1 : Int32} {v2 : Int32}  {K : Int32 → Mem → Option (Mem)} (hK : ∀ (v3 : Int32) (μ : Mem), K v3 μ = some μZ → Gd X 157 [(0, .ref (evA (xV X) 0)), (3, .int v3)] [] μ) : ∀ (n : Nat) (v3 : Int32) (v4 : Int32) (μ : Mem), f_X10_goes_L5 v1 v2 K n v3 v4 μ = some μZ → Gd X 5 [(0, .ref (evA (xV X) 0)), (1, .int v1), (2, .int v2), (3, .int v3), (4, .int v4)] [] μ := by
  intro n
  induction n with
  | zero => intro _ _ _ h; rw [f_X10_goes_L5] at h; cases h
  | succ n ih =>
    intro v3 v4 μ h
    rw [f_X10_goes_L5] at h
    refine so_iload (pc := 5) hX dX10_goes_5 4 rfl ?_
    refine so_aload_n (pc := 7) hX dX10_goes_7 0 rfl ?_
    refine so_gI (pc := 8) hX dX10_goes_8 fl_X10_171 (ekM hL rfl) ?_
    refine so_icmp_ge (pc := 11) hX 157 dX10_goes_11 (by decide) (fun hc1 => ?_) (fun hc1 => ?_)
    · have h := ip hc1 h
      refine so_sub (pc := 157) (lv' := [(0, .ref (evA (xV X) 0)), (3, .int v3)]) [0, 3] rfl ?_
      exact hK _ _ h
    · have h := iq hc1 h
      refine so_aload_n (pc := 14) hX dX10_goes_14 0 rfl ?_
      refine so_gR (pc := 15) hX 16 dX10_goes_15 fl_X10_55 (ekM hL rfl) (erM hL rfl) ?_
      refine so_iload (pc := 18) hX dX10_goes_18 4 rfl ?_
      obtain ⟨e2, hr, h⟩ := ob h
      refine so_iald (pc := 20) hX dX10_goes_20 (ekM hL rfl) (elM hL rfl) hr ?_
      refine so_iload_n (pc := 21) hX dX10_goes_21 1 rfl ?_
      refine so_icmp_eq (pc := 22) hX 151 dX10_goes_22 (by decide) (fun hc3 => ?_) (fun hc3 => ?_)
      · have h := ip hc3 h
        refine so_iinc (pc := 151) hX dX10_goes_151 4 (1 : Int32) [(4, .int (v4 + (1 : Int32))), (0, .ref (evA (xV X) 0)), (1, .int v1), (2, .int v2), (3, .int v3)] rfl (by decide) (by rw [hn]; decide) rfl ?_
        refine so_goto (pc := 154) hX 5 dX10_goes_154 (by decide) ?_
        refine so_sub (pc := 5) (lv' := [(0, .ref (evA (xV X) 0)), (1, .int v1), (2, .int v2), (3, .int v3), (4, .int (v4 + (1 : Int32)))]) [1, 2, 3, 4, 0] rfl ?_
        exact ih _ _ _ h
      · have h := iq hc3 h
        refine so_iload_n (pc := 25) hX dX10_goes_25 2 rfl ?_
        refine so_iconst (v := (-1 : Int32)) (pc := 26) hX dX10_goes_26 (by decide) ?_
        refine so_icmp_eq (pc := 27) hX 44 dX10_goes_27 (by decide) (fun hc4 => ?_) (fun hc4 => ?_)
        · have h := ip hc4 h
          refine so_aload_n (pc := 44) hX dX10_goes_44 0 rfl ?_
          refine so_gR (pc := 45) hX 16 dX10_goes_45 fl_X10_55 (ekM hL rfl) (erM hL rfl) ?_
          refine so_iload_n (pc := 48) hX dX10_goes_48 3 rfl ?_
          refine so_aload_n (pc := 49) hX dX10_goes_49 0 rfl ?_
          refine so_gR (pc := 50) hX 16 dX10_goes_50 fl_X10_55 (ekM hL rfl) (erM hL rfl) ?_
          refine so_iload (pc := 53) hX dX10_goes_53 4 rfl ?_
          obtain ⟨e5, hr, h⟩ := ob h
          refine so_iald (pc := 55) hX dX10_goes_55 (ekM hL rfl) (elM hL rfl) hr ?_
          obtain ⟨μ6, hr, h⟩ := ob h
          refine so_iast (pc := 56) hX dX10_goes_56 (ekM hL rfl) (elM hL rfl) hr ?_
          refine so_aload_n (pc := 57) hX dX10_goes_57 0 rfl ?_
          refine so_gR (pc := 58) hX 17 dX10_goes_58 fl_X10_58 (ekM hL rfl) (erM hL rfl) ?_
          refine so_iload_n (pc := 61) hX dX10_goes_61 3 rfl ?_
          refine so_aload_n (pc := 62) hX dX10_goes_62 0 rfl ?_
          refine so_gR (pc := 63) hX 17 dX10_goes_63 fl_X10_58 (ekM hL rfl) (erM hL rfl) ?_
          refine so_iload (pc := 66) hX dX10_goes_66 4 rfl ?_
          obtain ⟨e7, hr, h⟩ := ob h
          refine so_iald (pc := 68) hX dX10_goes_68 (ekM hL rfl) (elM hL rfl) hr ?_
          obtain ⟨μ8, hr, h⟩ := ob h
          refine so_iast (pc := 69) hX dX10_goes_69 (ekM hL rfl) (elM hL rfl) hr ?_
          refine so_aload_n (pc := 70) hX dX10_goes_70 0 rfl ?_
          refine so_gR (pc := 71) hX 18 dX10_goes_71 fl_X10_61 (ekM hL rfl) (erM hL rfl) ?_
          refine so_iload_n (pc := 74) hX dX10_goes_74 3 rfl ?_
          refine so_aload_n (pc := 75) hX dX10_goes_75 0 rfl ?_
          refine so_gR (pc := 76) hX 18 dX10_goes_76 fl_X10_61 (ekM hL rfl) (erM hL rfl) ?_
          refine so_iload (pc := 79) hX dX10_goes_79 4 rfl ?_
          obtain ⟨e9, hr, h⟩ := ob h
          refine so_iald (pc := 81) hX dX10_goes_81 (ekM hL rfl) (elM hL rfl) hr ?_
          obtain ⟨μ10, hr, h⟩ := ob h
          refine so_iast (pc := 82) hX dX10_goes_82 (ekM hL rfl) (elM hL rfl) hr ?_
          refine so_aload_n (pc := 83) hX dX10_goes_83 0 rfl ?_
          refine so_gR (pc := 84) hX 19 dX10_goes_84 fl_X10_64 (ekM hL rfl) (erM hL rfl) ?_
          refine so_iload_n (pc := 87) hX dX10_goes_87 3 rfl ?_
          refine so_aload_n (pc := 88) hX dX10_goes_88 0 rfl ?_
          refine so_gR (pc := 89) hX 19 dX10_goes_89 fl_X10_64 (ekM hL rfl) (erM hL rfl) ?_
          refine so_iload (pc := 92) hX dX10_goes_92 4 rfl ?_
          obtain ⟨e11, hr, h⟩ := ob h
          refine so_iald (pc := 94) hX dX10_goes_94 (ekM hL rfl) (elM hL rfl) hr ?_
          obtain ⟨μ12, hr, h⟩ := ob h
          refine so_iast (pc := 95) hX dX10_goes_95 (ekM hL rfl) (elM hL rfl) hr ?_
          refine so_aload_n (pc := 96) hX dX10_goes_96 0 rfl ?_
          refine so_gR (pc := 97) hX 20 dX10_goes_97 fl_X10_67 (ekM hL rfl) (erM hL rfl) ?_
          refine so_iload_n (pc := 100) hX dX10_goes_100 3 rfl ?_
          refine so_aload_n (pc := 101) hX dX10_goes_101 0 rfl ?_
          refine so_gR (pc := 102) hX 20 dX10_goes_102 fl_X10_67 (ekM hL rfl) (erM hL rfl) ?_
          refine so_iload (pc := 105) hX dX10_goes_105 4 rfl ?_
          obtain ⟨e13, hr, h⟩ := ob h
          refine so_iald (pc := 107) hX dX10_goes_107 (ekM hL rfl) (elM hL rfl) hr ?_
          obtain ⟨μ14, hr, h⟩ := ob h
          refine so_iast (pc := 108) hX dX10_goes_108 (ekM hL rfl) (elM hL rfl) hr ?_
          refine so_aload_n (pc := 109) hX dX10_goes_109 0 rfl ?_
          refine so_gR (pc := 110) hX 21 dX10_goes_110 fl_X10_70 (ekM hL rfl) (erM hL rfl) ?_
          refine so_iload_n (pc := 113) hX dX10_goes_113 3 rfl ?_
          refine so_aload_n (pc := 114) hX dX10_goes_114 0 rfl ?_
          refine so_gR (pc := 115) hX 21 dX10_goes_115 fl_X10_70 (ekM hL rfl) (erM hL rfl) ?_
          refine so_iload (pc := 118) hX dX10_goes_118 4 rfl ?_
          obtain ⟨e15, hr, h⟩ := ob h
          refine so_iald (pc := 120) hX dX10_goes_120 (ekM hL rfl) (elM hL rfl) hr ?_
          obtain ⟨μ16, hr, h⟩ := ob h
          refine so_iast (pc := 121) hX dX10_goes_121 (ekM hL rfl) (elM hL rfl) hr ?_
          refine so_aload_n (pc := 122) hX dX10_goes_122 0 rfl ?_
          refine so_gR (pc := 123) hX 22 dX10_goes_123 fl_X10_73 (ekM hL rfl) (erM hL rfl) ?_
          refine so_iload_n (pc := 126) hX dX10_goes_126 3 rfl ?_
          refine so_aload_n (pc := 127) hX dX10_goes_127 0 rfl ?_
          refine so_gR (pc := 128) hX 22 dX10_goes_128 fl_X10_73 (ekM hL rfl) (erM hL rfl) ?_
          refine so_iload (pc := 131) hX dX10_goes_131 4 rfl ?_
          obtain ⟨e17, hr, h⟩ := ob h
          refine so_iald (pc := 133) hX dX10_goes_133 (ekM hL rfl) (elM hL rfl) hr ?_
          obtain ⟨μ18, hr, h⟩ := ob h
          refine so_iast (pc := 134) hX dX10_goes_134 (ekM hL rfl) (elM hL rfl) hr ?_
          refine so_aload_n (pc := 135) hX dX10_goes_135 0 rfl ?_
          refine so_gR (pc := 136) hX 23 dX10_goes_136 fl_X10_76 (ekM hL rfl) (erM hL rfl) ?_
          refine so_iload_n (pc := 139) hX dX10_goes_139 3 rfl ?_
          refine so_aload_n (pc := 140) hX dX10_goes_140 0 rfl ?_
          refine so_gR (pc := 141) hX 23 dX10_goes_141 fl_X10_76 (ekM hL rfl) (erM hL rfl) ?_
          refine so_iload (pc := 144) hX dX10_goes_144 4 rfl ?_
          obtain ⟨e19, hr, h⟩ := ob h
          refine so_iald (pc := 146) hX dX10_goes_146 (ekM hL rfl) (elM hL rfl) hr ?_
          obtain ⟨μ20, hr, h⟩ := ob h
          refine so_iast (pc := 147) hX dX10_goes_147 (ekM hL rfl) (elM hL rfl) hr ?_
          refine so_iinc (pc := 148) hX dX10_goes_148 3 (1 : Int32) [(3, .int (v3 + (1 : Int32))), (0, .ref (evA (xV X) 0)), (1, .int v1), (2, .int v2), (4, .int v4)] rfl (by decide) (by rw [hn]; decide) rfl ?_
          refine so_iinc (pc := 151) hX dX10_goes_151 4 (1 : Int32) [(4, .int (v4 + (1 : Int32))), (3, .int (v3 + (1 : Int32))), (0, .ref (evA (xV X) 0)), (1, .int v1), (2, .int v2)] rfl (by decide) (by rw [hn]; decide) rfl ?_
          refine so_goto (pc := 154) hX 5 dX10_goes_154 (by decide) ?_
          refine so_sub (pc := 5) (lv' := [(0, .ref (evA (xV X) 0)), (1, .int v1), (2, .int v2), (3, .int (v3 + (1 : Int32))), (4, .int (v4 + (1 : Int32)))]) [2, 3, 4, 1, 0] rfl ?_
          exact ih _ _ _ h
        · have h := iq hc4 h
          refine so_aload_n (pc := 30) hX dX10_goes_30 0 rfl ?_
          refine so_gR (pc := 31) hX 23 dX10_goes_31 fl_X10_76 (ekM hL rfl) (erM hL rfl) ?_
          refine so_iload (pc := 34) hX dX10_goes_34 4 rfl ?_
          obtain ⟨e21, hr, h⟩ := ob h
          refine so_iald (pc := 36) hX dX10_goes_36 (ekM hL rfl) (elM hL rfl) hr ?_
          refine so_iload_n (pc := 37) hX dX10_goes_37 2 rfl ?_
          refine so_icmp_ne (pc := 38) hX 44 dX10_goes_38 (by decide) (fun hc22 => ?_) (fun hc22 => ?_)
          · have h := iq hc22 h
            refine so_aload_n (pc := 44) hX dX10_goes_44 0 rfl ?_
            refine so_gR (pc := 45) hX 16 dX10_goes_45 fl_X10_55 (ekM hL rfl) (erM hL rfl) ?_
            refine so_iload_n (pc := 48) hX dX10_goes_48 3 rfl ?_
            refine so_aload_n (pc := 49) hX dX10_goes_49 0 rfl ?_
            refine so_gR (pc := 50) hX 16 dX10_goes_50 fl_X10_55 (ekM hL rfl) (erM hL rfl) ?_
            refine so_iload (pc := 53) hX dX10_goes_53 4 rfl ?_
            obtain ⟨e23, hr, h⟩ := ob h
            refine so_iald (pc := 55) hX dX10_goes_55 (ekM hL rfl) (elM hL rfl) hr ?_
            obtain ⟨μ24, hr, h⟩ := ob h
            refine so_iast (pc := 56) hX dX10_goes_56 (ekM hL rfl) (elM hL rfl) hr ?_
            refine so_aload_n (pc := 57) hX dX10_goes_57 0 rfl ?_
            refine so_gR (pc := 58) hX 17 dX10_goes_58 fl_X10_58 (ekM hL rfl) (erM hL rfl) ?_
            refine so_iload_n (pc := 61) hX dX10_goes_61 3 rfl ?_
            refine so_aload_n (pc := 62) hX dX10_goes_62 0 rfl ?_
            refine so_gR (pc := 63) hX 17 dX10_goes_63 fl_X10_58 (ekM hL rfl) (erM hL rfl) ?_
            refine so_iload (pc := 66) hX dX10_goes_66 4 rfl ?_
            obtain ⟨e25, hr, h⟩ := ob h
            refine so_iald (pc := 68) hX dX10_goes_68 (ekM hL rfl) (elM hL rfl) hr ?_
            obtain ⟨μ26, hr, h⟩ := ob h
            refine so_iast (pc := 69) hX dX10_goes_69 (ekM hL rfl) (elM hL rfl) hr ?_
            refine so_aload_n (pc := 70) hX dX10_goes_70 0 rfl ?_
            refine so_gR (pc := 71) hX 18 dX10_goes_71 fl_X10_61 (ekM hL rfl) (erM hL rfl) ?_
            refine so_iload_n (pc := 74) hX dX10_goes_74 3 rfl ?_
            refine so_aload_n (pc := 75) hX dX10_goes_75 0 rfl ?_
            refine so_gR (pc := 76) hX 18 dX10_goes_76 fl_X10_61 (ekM hL rfl) (erM hL rfl) ?_
            refine so_iload (pc := 79) hX dX10_goes_79 4 rfl ?_
            obtain ⟨e27, hr, h⟩ := ob h
            refine so_iald (pc := 81) hX dX10_goes_81 (ekM hL rfl) (elM hL rfl) hr ?_
            obtain ⟨μ28, hr, h⟩ := ob h
            refine so_iast (pc := 82) hX dX10_goes_82 (ekM hL rfl) (elM hL rfl) hr ?_
            refine so_aload_n (pc := 83) hX dX10_goes_83 0 rfl ?_
            refine so_gR (pc := 84) hX 19 dX10_goes_84 fl_X10_64 (ekM hL rfl) (erM hL rfl) ?_
            refine so_iload_n (pc := 87) hX dX10_goes_87 3 rfl ?_
            refine so_aload_n (pc := 88) hX dX10_goes_88 0 rfl ?_
            refine so_gR (pc := 89) hX 19 dX10_goes_89 fl_X10_64 (ekM hL rfl) (erM hL rfl) ?_
            refine so_iload (pc := 92) hX dX10_goes_92 4 rfl ?_
            obtain ⟨e29, hr, h⟩ := ob h
            refine so_iald (pc := 94) hX dX10_goes_94 (ekM hL rfl) (elM hL rfl) hr ?_
            obtain ⟨μ30, hr, h⟩ := ob h
            refine so_iast (pc := 95) hX dX10_goes_95 (ekM hL rfl) (elM hL rfl) hr ?_
            refine so_aload_n (pc := 96) hX dX10_goes_96 0 rfl ?_
            refine so_gR (pc := 97) hX 20 dX10_goes_97 fl_X10_67 (ekM hL rfl) (erM hL rfl) ?_
            refine so_iload_n (pc := 100) hX dX10_goes_100 3 rfl ?_
            refine so_aload_n (pc := 101) hX dX10_goes_101 0 rfl ?_
            refine so_gR (pc := 102) hX 20 dX10_goes_102 fl_X10_67 (ekM hL rfl) (erM hL rfl) ?_
            refine so_iload (pc := 105) hX dX10_goes_105 4 rfl ?_
            obtain ⟨e31, hr, h⟩ := ob h
            refine so_iald (pc := 107) hX dX10_goes_107 (ekM hL rfl) (elM hL rfl) hr ?_
            obtain ⟨μ32, hr, h⟩ := ob h
            refine so_iast (pc := 108) hX dX10_goes_108 (ekM hL rfl) (elM hL rfl) hr ?_
            refine so_aload_n (pc := 109) hX dX10_goes_109 0 rfl ?_
            refine so_gR (pc := 110) hX 21 dX10_goes_110 fl_X10_70 (ekM hL rfl) (erM hL rfl) ?_
            refine so_iload_n (pc := 113) hX dX10_goes_113 3 rfl ?_
            refine so_aload_n (pc := 114) hX dX10_goes_114 0 rfl ?_
            refine so_gR (pc := 115) hX 21 dX10_goes_115 fl_X10_70 (ekM hL rfl) (erM hL rfl) ?_
            refine so_iload (pc := 118) hX dX10_goes_118 4 rfl ?_
            obtain ⟨e33, hr, h⟩ := ob h
            refine so_iald (pc := 120) hX dX10_goes_120 (ekM hL rfl) (elM hL rfl) hr ?_
            obtain ⟨μ34, hr, h⟩ := ob h
            refine so_iast (pc := 121) hX dX10_goes_121 (ekM hL rfl) (elM hL rfl) hr ?_
            refine so_aload_n (pc := 122) hX dX10_goes_122 0 rfl ?_
            refine so_gR (pc := 123) hX 22 dX10_goes_123 fl_X10_73 (ekM hL rfl) (erM hL rfl) ?_
            refine so_iload_n (pc := 126) hX dX10_goes_126 3 rfl ?_
            refine so_aload_n (pc := 127) hX dX10_goes_127 0 rfl ?_
            refine so_gR (pc := 128) hX 22 dX10_goes_128 fl_X10_73 (ekM hL rfl) (erM hL rfl) ?_
            refine so_iload (pc := 131) hX dX10_goes_131 4 rfl ?_
            obtain ⟨e35, hr, h⟩ := ob h
            refine so_iald (pc := 133) hX dX10_goes_133 (ekM hL rfl) (elM hL rfl) hr ?_
            obtain ⟨μ36, hr, h⟩ := ob h
            refine so_iast (pc := 134) hX dX10_goes_134 (ekM hL rfl) (elM hL rfl) hr ?_
            refine so_aload_n (pc := 135) hX dX10_goes_135 0 rfl ?_
            refine so_gR (pc := 136) hX 23 dX10_goes_136 fl_X10_76 (ekM hL rfl) (erM hL rfl) ?_
            refine so_iload_n (pc := 139) hX dX10_goes_139 3 rfl ?_
            refine so_aload_n (pc := 140) hX dX10_goes_140 0 rfl ?_
            refine so_gR (pc := 141) hX 23 dX10_goes_141 fl_X10_76 (ekM hL rfl) (erM hL rfl) ?_
            refine so_iload (pc := 144) hX dX10_goes_144 4 rfl ?_
            obtain ⟨e37, hr, h⟩ := ob h
            refine so_iald (pc := 146) hX dX10_goes_146 (ekM hL rfl) (elM hL rfl) hr ?_
            obtain ⟨μ38, hr, h⟩ := ob h
            refine so_iast (pc := 147) hX dX10_goes_147 (ekM hL rfl) (elM hL rfl) hr ?_
            refine so_iinc (pc := 148) hX dX10_goes_148 3 (1 : Int32) [(3, .int (v3 + (1 : Int32))), (0, .ref (evA (xV X) 0)), (1, .int v1), (2, .int v2), (4, .int v4)] rfl (by decide) (by rw [hn]; decide) rfl ?_
            refine so_iinc (pc := 151) hX dX10_goes_151 4 (1 : Int32) [(4, .int (v4 + (1 : Int32))), (3, .int (v3 + (1 : Int32))), (0, .ref (evA (xV X) 0)), (1, .int v1), (2, .int v2)] rfl (by decide) (by rw [hn]; decide) rfl ?_
            refine so_goto (pc := 154) hX 5 dX10_goes_154 (by decide) ?_
            refine so_sub (pc := 5) (lv' := [(0, .ref (evA (xV X) 0)), (1, .int v1), (2, .int v2), (3, .int (v3 + (1 : Int32))), (4, .int (v4 + (1 : Int32)))]) [2, 3, 4, 1, 0] rfl ?_
            exact ih _ _ _ h
          · have h := ip hc22 h
            refine so_goto (pc := 41) hX 151 dX10_goes_41 (by decide) ?_
            refine so_iinc (pc := 151) hX dX10_goes_151 4 (1 : Int32) [(4, .int (v4 + (1 : Int32))), (0, .ref (evA (xV X) 0)), (1, .int v1), (2, .int v2), (3, .int v3)] rfl (by decide) (by rw [hn]; decide) rfl ?_
            refine so_goto (pc := 154) hX 5 dX10_goes_154 (by decide) ?_
            refine so_sub (pc := 5) (lv' := [(0, .ref (evA (xV X) 0)), (1, .int v1), (2, .int v2), (3, .int v3), (4, .int (v4 + (1 : Int32)))]) [1, 2, 3, 4, 0] rfl ?_
            exact ih _ _ _ h
set_option maxHeartbeats 4000000 in
set_option maxRecDepth 100000 in
theorem c_X10_goes {l : Launch} {V : Ev} (hL : V.2.2.2 = lyM) {v1 : Int32} {v2 : Int32}  {μ : Mem} {μZ : Mem} (h : f_X10_goes v1 v2 μ = some μZ) : CT l V yX10_goes cX10_goes 5 none 0 [.ref (evA V 0), .int v1, .int v2] μ μZ none := by
  refine so_met [(0, .ref (evA V 0)), (1, .int v1), (2, .int v2)] (by decide) (Nat.le_of_ble_eq_true rfl) (evMn hL) rfl ?_
  intro X hl hV hn hX hR
  subst hl hV
  unfold f_X10_goes at h
  refine so_iconst (v := (0 : Int32)) (pc := 0) hX dX10_goes_0 (by decide) ?_
  refine so_istore_n (pc := 1) hX dX10_goes_1 [(3, .int (0 : Int32)), (0, .ref (evA (xV X) 0)), (1, .int v1), (2, .int v2)] (by rw [hn]; decide) rfl ?_
  refine so_iconst (v := (0 : Int32)) (pc := 2) hX dX10_goes_2 (by decide) ?_
  refine so_istore (pc := 3) hX dX10_goes_3 [(4, .int (0 : Int32)), (3, .int (0 : Int32)), (0, .ref (evA (xV X) 0)), (1, .int v1), (2, .int v2)] (by rw [hn]; decide) rfl ?_
  refine so_sub (pc := 5) (lv' := [(0, .ref (evA (xV X) 0)), (1, .int v1), (2, .int v2), (3, .int (0 : Int32)), (4, .int (0 : Int32))]) [2, 3, 4, 1, 0] rfl ?_
  refine g_X10_goes_L5 hX hL hn hR (fun w39 μ40 h => ?_) FU _ _ _ h
  refine so_aload_n (pc := 157) hX dX10_goes_157 0 rfl ?_
  refine so_iload_n (pc := 158) hX dX10_goes_158 1 rfl ?_
  refine so_pI (pc := 159) hX dX10_goes_159 fl_X10_171 fw_10_15 (ekM hL rfl) rfl rfl ?_
  exact so_vretH (pc := 162) hX hR h dX10_goes_162
set_option maxHeartbeats 4000000 in
set_option maxRecDepth 100000 in
theorem g_X10_log_L115 {X : Cx} (hX : Fx X cX10_log RX10 1) (hL : (xV X).2.2.2 = lyM) (hn : xn X = 7) {rZ : Int32} {μZ : Mem} (hR : Rt X (some .boolean) μZ (some (.int rZ))) {v1 : Int32}  {K : Mem → Option (Int32 × Mem)} (hK : ∀  (μ : Mem), K μ = some (rZ, μZ) → Gd X 147 [] [] μ) : ∀ (n : Nat) (v6 : Int32) (μ : Mem), f_X10_log_L115 v1 K n v6 μ = some (rZ, μZ) → Gd X 115 [(0, .ref (evA (xV X) 0)), (1, .int v1), (6, .int v6)] [] μ := by
  intro n
  induction n with
  | zero => intro _ _ h; rw [f_X10_log_L115] at h; cases h
  | succ n ih =>
    intro v6 μ h
    rw [f_X10_log_L115] at h
    refine so_iload (pc := 115) hX dX10_log_115 2 rfl ?_
    refine so_bipush (v := (8 : Int32)) (pc := 117) hX dX10_log_117 (by decide) ?_
    refine so_icmp_ge (pc := 119) hX 147 dX10_log_119 (by decide) (fun hc24 => ?_) (fun hc24 => ?_)
    · have h := ip hc24 h
      refine so_sub (pc := 147) (lv' := []) [] rfl ?_
      exact hK _ h
    · have h := iq hc24 h
      refine so_aload_n (pc := 122) hX dX10_log_122 0 rfl ?_
      refine so_gR (pc := 123) hX 44 dX10_log_123 fl_X10_143 (ekM hL rfl) (erM hL rfl) ?_
      refine so_iload (pc := 126) hX dX10_log_126 2 rfl ?_
      obtain ⟨e25, hr, h⟩ := ob h
      refine so_iald (pc := 128) hX dX10_log_128 (ekM hL rfl) (elM hL rfl) hr ?_
      refine so_iload_n (pc := 129) hX dX10_log_129 1 rfl ?_
      refine so_icmp_ne (pc := 130) hX 141 dX10_log_130 (by decide) (fun hc26 => ?_) (fun hc26 => ?_)
      · have h := iq hc26 h
        refine so_iinc (pc := 141) hX dX10_log_141 2 (1 : Int32) [(6, .int (v6 + (1 : Int32))), (0, .ref (evA (xV X) 0)), (1, .int v1)] rfl (by decide) (by rw [hn]; decide) rfl ?_
        refine so_goto (pc := 144) hX 115 dX10_log_144 (by decide) ?_
        refine so_sub (pc := 115) (lv' := [(0, .ref (evA (xV X) 0)), (1, .int v1), (6, .int (v6 + (1 : Int32)))]) [1, 2, 0] rfl ?_
        exact ih _ _ h
      · have h := ip hc26 h
        refine so_aload_n (pc := 133) hX dX10_log_133 0 rfl ?_
        refine so_gR (pc := 134) hX 44 dX10_log_134 fl_X10_143 (ekM hL rfl) (erM hL rfl) ?_
        refine so_iload (pc := 137) hX dX10_log_137 2 rfl ?_
        refine so_iconst (v := (-1 : Int32)) (pc := 139) hX dX10_log_139 (by decide) ?_
        obtain ⟨μ27, hr, h⟩ := ob h
        refine so_iast (pc := 140) hX dX10_log_140 (ekM hL rfl) (elM hL rfl) hr ?_
        refine so_iinc (pc := 141) hX dX10_log_141 2 (1 : Int32) [(6, .int (v6 + (1 : Int32))), (0, .ref (evA (xV X) 0)), (1, .int v1)] rfl (by decide) (by rw [hn]; decide) rfl ?_
        refine so_goto (pc := 144) hX 115 dX10_log_144 (by decide) ?_
        refine so_sub (pc := 115) (lv' := [(0, .ref (evA (xV X) 0)), (1, .int v1), (6, .int (v6 + (1 : Int32)))]) [1, 2, 0] rfl ?_
        exact ih _ _ h
set_option maxHeartbeats 4000000 in
set_option maxRecDepth 100000 in
theorem c_X10_log {l : Launch} {V : Ev} (hL : V.2.2.2 = lyM) {v1 : Int32} {v2 : Int32} {v3 : Int32} {v4 : Int32} {v5 : Int32}  {μ : Mem} {rZ : Int32} {μZ : Mem} (h : f_X10_log v1 v2 v3 v4 v5 μ = some (rZ, μZ)) : CT l V yX10_log cX10_log 7 (some .boolean) 1 [.ref (evA V 0), .int v1, .int v2, .int v3, .int v4, .int v5] μ μZ (some (.int rZ)) := by
  refine so_met [(0, .ref (evA V 0)), (1, .int v1), (2, .int v2), (3, .int v3), (4, .int v4), (5, .int v5)] (by decide) (Nat.le_of_ble_eq_true rfl) (evMn hL) rfl ?_
  intro X hl hV hn hX hR
  subst hl hV
  unfold f_X10_log at h
  refine so_iload_n (pc := 0) hX dX10_log_0 1 rfl ?_
  refine so_iconst (v := (0 : Int32)) (pc := 1) hX dX10_log_1 (by decide) ?_
  refine so_iconst (v := (2 : Int32)) (pc := 2) hX dX10_log_2 (by decide) ?_
  obtain ⟨r2, μ1, hr, h⟩ := obd h
  refine so_callS (As := [.int v1, .int (0 : Int32), .int (2 : Int32)]) (rest := []) (pc := 3) hX dX10_log_3 (c_X10_isIn hL hr) mw_X10_isIn ms_X10_isIn ml_X10_174 rfl rfl (by omega) (by decide) (Nat.le_of_ble_eq_true rfl) ?_
  refine so_if_eq (pc := 6) hX 53 dX10_log_6 (by decide) (fun hc3 => ?_) (fun hc3 => ?_)
  · have h := ip hc3 h
    refine so_iconst (v := (0 : Int32)) (pc := 53) hX dX10_log_53 (by decide) ?_
    exact so_iretH (pc := 54) hX hR h (by decide) dX10_log_54
  · have h := iq hc3 h
    refine so_iload_n (pc := 9) hX dX10_log_9 2 rfl ?_
    refine so_iconst (v := (1 : Int32)) (pc := 10) hX dX10_log_10 (by decide) ?_
    refine so_bipush (v := (12 : Int32)) (pc := 11) hX dX10_log_11 (by decide) ?_
    obtain ⟨r5, μ4, hr, h⟩ := obd h
    refine so_callS (As := [.int v2, .int (1 : Int32), .int (12 : Int32)]) (rest := []) (pc := 13) hX dX10_log_13 (c_X10_isIn hL hr) mw_X10_isIn ms_X10_isIn ml_X10_174 rfl rfl (by omega) (by decide) (Nat.le_of_ble_eq_true rfl) ?_
    refine so_if_eq (pc := 16) hX 53 dX10_log_16 (by decide) (fun hc6 => ?_) (fun hc6 => ?_)
    · have h := ip hc6 h
      refine so_iconst (v := (0 : Int32)) (pc := 53) hX dX10_log_53 (by decide) ?_
      exact so_iretH (pc := 54) hX hR h (by decide) dX10_log_54
    · have h := iq hc6 h
      refine so_iload_n (pc := 19) hX dX10_log_19 3 rfl ?_
      refine so_bipush (v := (10 : Int32)) (pc := 20) hX dX10_log_20 (by decide) ?_
      refine so_bipush (v := (60 : Int32)) (pc := 22) hX dX10_log_22 (by decide) ?_
      obtain ⟨r8, μ7, hr, h⟩ := obd h
      refine so_callS (As := [.int v3, .int (10 : Int32), .int (60 : Int32)]) (rest := []) (pc := 24) hX dX10_log_24 (c_X10_isIn hL hr) mw_X10_isIn ms_X10_isIn ml_X10_174 rfl rfl (by omega) (by decide) (Nat.le_of_ble_eq_true rfl) ?_
      refine so_if_eq (pc := 27) hX 53 dX10_log_27 (by decide) (fun hc9 => ?_) (fun hc9 => ?_)
      · have h := ip hc9 h
        refine so_iconst (v := (0 : Int32)) (pc := 53) hX dX10_log_53 (by decide) ?_
        exact so_iretH (pc := 54) hX hR h (by decide) dX10_log_54
      · have h := iq hc9 h
        refine so_iload (pc := 30) hX dX10_log_30 4 rfl ?_
        refine so_bipush (v := (10 : Int32)) (pc := 32) hX dX10_log_32 (by decide) ?_
        refine so_bipush (v := (40 : Int32)) (pc := 34) hX dX10_log_34 (by decide) ?_
        obtain ⟨r11, μ10, hr, h⟩ := obd h
        refine so_callS (As := [.int v4, .int (10 : Int32), .int (40 : Int32)]) (rest := []) (pc := 36) hX dX10_log_36 (c_X10_isIn hL hr) mw_X10_isIn ms_X10_isIn ml_X10_174 rfl rfl (by omega) (by decide) (Nat.le_of_ble_eq_true rfl) ?_
        refine so_if_eq (pc := 39) hX 53 dX10_log_39 (by decide) (fun hc12 => ?_) (fun hc12 => ?_)
        · have h := ip hc12 h
          refine so_iconst (v := (0 : Int32)) (pc := 53) hX dX10_log_53 (by decide) ?_
          exact so_iretH (pc := 54) hX hR h (by decide) dX10_log_54
        · have h := iq hc12 h
          refine so_iload (pc := 42) hX dX10_log_42 5 rfl ?_
          refine so_bipush (v := (-2 : Int32)) (pc := 44) hX dX10_log_44 (by decide) ?_
          refine so_iconst (v := (2 : Int32)) (pc := 46) hX dX10_log_46 (by decide) ?_
          obtain ⟨r14, μ13, hr, h⟩ := obd h
          refine so_callS (As := [.int v5, .int (-2 : Int32), .int (2 : Int32)]) (rest := []) (pc := 47) hX dX10_log_47 (c_X10_isIn hL hr) mw_X10_isIn ms_X10_isIn ml_X10_174 rfl rfl (by omega) (by decide) (Nat.le_of_ble_eq_true rfl) ?_
          refine so_if_ne (pc := 50) hX 55 dX10_log_50 (by decide) (fun hc15 => ?_) (fun hc15 => ?_)
          · have h := iq hc15 h
            refine so_aload_n (pc := 55) hX dX10_log_55 0 rfl ?_
            refine so_gR (pc := 56) hX 1 dX10_log_56 fl_X10_7 (ekM hL rfl) (erM hL rfl) ?_
            refine so_iload_n (pc := 59) hX dX10_log_59 1 rfl ?_
            refine so_iload_n (pc := 60) hX dX10_log_60 2 rfl ?_
            obtain ⟨μ16, hr, h⟩ := ob h
            refine so_iast (pc := 61) hX dX10_log_61 (ekM hL rfl) (elM hL rfl) hr ?_
            refine so_aload_n (pc := 62) hX dX10_log_62 0 rfl ?_
            refine so_gR (pc := 63) hX 2 dX10_log_63 fl_X10_13 (ekM hL rfl) (erM hL rfl) ?_
            refine so_iload_n (pc := 66) hX dX10_log_66 1 rfl ?_
            refine so_iload_n (pc := 67) hX dX10_log_67 3 rfl ?_
            obtain ⟨μ17, hr, h⟩ := ob h
            refine so_iast (pc := 68) hX dX10_log_68 (ekM hL rfl) (elM hL rfl) hr ?_
            refine so_aload_n (pc := 69) hX dX10_log_69 0 rfl ?_
            refine so_gR (pc := 70) hX 3 dX10_log_70 fl_X10_16 (ekM hL rfl) (erM hL rfl) ?_
            refine so_iload_n (pc := 73) hX dX10_log_73 1 rfl ?_
            refine so_iload (pc := 74) hX dX10_log_74 4 rfl ?_
            obtain ⟨μ18, hr, h⟩ := ob h
            refine so_iast (pc := 76) hX dX10_log_76 (ekM hL rfl) (elM hL rfl) hr ?_
            refine so_aload_n (pc := 77) hX dX10_log_77 0 rfl ?_
            refine so_gR (pc := 78) hX 4 dX10_log_78 fl_X10_19 (ekM hL rfl) (erM hL rfl) ?_
            refine so_iload_n (pc := 81) hX dX10_log_81 1 rfl ?_
            refine so_iload (pc := 82) hX dX10_log_82 5 rfl ?_
            obtain ⟨μ19, hr, h⟩ := ob h
            refine so_iast (pc := 84) hX dX10_log_84 (ekM hL rfl) (elM hL rfl) hr ?_
            refine so_aload_n (pc := 85) hX dX10_log_85 0 rfl ?_
            refine so_gR (pc := 86) hX 5 dX10_log_86 fl_X10_22 (ekM hL rfl) (erM hL rfl) ?_
            refine so_iload_n (pc := 89) hX dX10_log_89 1 rfl ?_
            refine so_iconst (v := (0 : Int32)) (pc := 90) hX dX10_log_90 (by decide) ?_
            obtain ⟨μ20, hr, h⟩ := ob h
            refine so_iast (pc := 91) hX dX10_log_91 (ekM hL rfl) (elM hL rfl) hr ?_
            refine so_aload_n (pc := 92) hX dX10_log_92 0 rfl ?_
            refine so_gR (pc := 93) hX 6 dX10_log_93 fl_X10_25 (ekM hL rfl) (erM hL rfl) ?_
            refine so_iload_n (pc := 96) hX dX10_log_96 1 rfl ?_
            refine so_iconst (v := (0 : Int32)) (pc := 97) hX dX10_log_97 (by decide) ?_
            obtain ⟨μ21, hr, h⟩ := ob h
            refine so_iast (pc := 98) hX dX10_log_98 (ekM hL rfl) (elM hL rfl) hr ?_
            refine so_aload_n (pc := 99) hX dX10_log_99 0 rfl ?_
            refine so_gR (pc := 100) hX 7 dX10_log_100 fl_X10_28 (ekM hL rfl) (erM hL rfl) ?_
            refine so_iload_n (pc := 103) hX dX10_log_103 1 rfl ?_
            refine so_iconst (v := (0 : Int32)) (pc := 104) hX dX10_log_104 (by decide) ?_
            obtain ⟨μ22, hr, h⟩ := ob h
            refine so_iast (pc := 105) hX dX10_log_105 (ekM hL rfl) (elM hL rfl) hr ?_
            refine so_aload_n (pc := 106) hX dX10_log_106 0 rfl ?_
            refine so_iload_n (pc := 107) hX dX10_log_107 1 rfl ?_
            refine so_iconst (v := (-1 : Int32)) (pc := 108) hX dX10_log_108 (by decide) ?_
            obtain ⟨μ23, hr, h⟩ := ob h
            refine so_callV (As := [.int v1, .int (-1 : Int32)]) (rest := []) (pc := 109) hX dX10_log_109 (c_X10_goes hL hr) mw_X10_goes mv_X10_goes ml_X10_178 (ekM hL rfl) (by decide) rfl rfl rfl rfl (by omega) (by decide) (Nat.le_of_ble_eq_true rfl) ?_
            refine so_iconst (v := (0 : Int32)) (pc := 112) hX dX10_log_112 (by decide) ?_
            refine so_istore (pc := 113) hX dX10_log_113 [(6, .int (0 : Int32)), (0, .ref (evA (xV X) 0)), (1, .int v1), (2, .int v2), (3, .int v3), (4, .int v4), (5, .int v5)] (by rw [hn]; decide) rfl ?_
            refine so_sub (pc := 115) (lv' := [(0, .ref (evA (xV X) 0)), (1, .int v1), (6, .int (0 : Int32))]) [1, 2, 0] rfl ?_
            refine g_X10_log_L115 hX hL hn hR (fun μ28 h => ?_) FU _ _ h
            refine so_iconst (v := (1 : Int32)) (pc := 147) hX dX10_log_147 (by decide) ?_
            exact so_iretH (pc := 148) hX hR h (by decide) dX10_log_148
          · have h := ip hc15 h
            refine so_iconst (v := (0 : Int32)) (pc := 53) hX dX10_log_53 (by decide) ?_
            exact so_iretH (pc := 54) hX hR h (by decide) dX10_log_54
set_option maxHeartbeats 4000000 in
set_option maxRecDepth 100000 in
theorem c_X10_tone {l : Launch} {V : Ev} (hL : V.2.2.2 = lyM) {v1 : Int32} {v2 : Int32} {v3 : Int32}  {μ : Mem} {rZ : Int32} {μZ : Mem} (h : f_X10_tone v1 v2 v3 μ = some (rZ, μZ)) : CT l V yX10_tone cX10_tone 4 (some .boolean) 1 [.ref (evA V 0), .int v1, .int v2, .int v3] μ μZ (some (.int rZ)) := by
  refine so_met [(0, .ref (evA V 0)), (1, .int v1), (2, .int v2), (3, .int v3)] (by decide) (Nat.le_of_ble_eq_true rfl) (evMn hL) rfl ?_
  intro X hl hV hn hX hR
  subst hl hV
  unfold f_X10_tone at h
  refine so_aload_n (pc := 0) hX dX10_tone_0 0 rfl ?_
  refine so_iload_n (pc := 1) hX dX10_tone_1 1 rfl ?_
  obtain ⟨r2, μ1, hr, h⟩ := obd h
  refine so_callV (As := [.int v1]) (rest := []) (pc := 2) hX dX10_tone_2 (c_X10_isLog hL hr) mw_X10_isLog mv_X10_isLog ml_X10_167 (ekM hL rfl) (by decide) rfl rfl rfl rfl (by omega) (by decide) (Nat.le_of_ble_eq_true rfl) ?_
  refine so_if_eq (pc := 5) hX 28 dX10_tone_5 (by decide) (fun hc3 => ?_) (fun hc3 => ?_)
  · have h := ip hc3 h
    refine so_iconst (v := (0 : Int32)) (pc := 28) hX dX10_tone_28 (by decide) ?_
    exact so_iretH (pc := 29) hX hR h (by decide) dX10_tone_29
  · have h := iq hc3 h
    refine so_iload_n (pc := 8) hX dX10_tone_8 2 rfl ?_
    refine so_iconst (v := (0 : Int32)) (pc := 9) hX dX10_tone_9 (by decide) ?_
    refine so_bipush (v := (100 : Int32)) (pc := 10) hX dX10_tone_10 (by decide) ?_
    obtain ⟨r5, μ4, hr, h⟩ := obd h
    refine so_callS (As := [.int v2, .int (0 : Int32), .int (100 : Int32)]) (rest := []) (pc := 12) hX dX10_tone_12 (c_X10_isIn hL hr) mw_X10_isIn ms_X10_isIn ml_X10_174 rfl rfl (by omega) (by decide) (Nat.le_of_ble_eq_true rfl) ?_
    refine so_if_eq (pc := 15) hX 28 dX10_tone_15 (by decide) (fun hc6 => ?_) (fun hc6 => ?_)
    · have h := ip hc6 h
      refine so_iconst (v := (0 : Int32)) (pc := 28) hX dX10_tone_28 (by decide) ?_
      exact so_iretH (pc := 29) hX hR h (by decide) dX10_tone_29
    · have h := iq hc6 h
      refine so_iload_n (pc := 18) hX dX10_tone_18 3 rfl ?_
      refine so_bipush (v := (-5 : Int32)) (pc := 19) hX dX10_tone_19 (by decide) ?_
      refine so_iconst (v := (5 : Int32)) (pc := 21) hX dX10_tone_21 (by decide) ?_
      obtain ⟨r8, μ7, hr, h⟩ := obd h
      refine so_callS (As := [.int v3, .int (-5 : Int32), .int (5 : Int32)]) (rest := []) (pc := 22) hX dX10_tone_22 (c_X10_isIn hL hr) mw_X10_isIn ms_X10_isIn ml_X10_174 rfl rfl (by omega) (by decide) (Nat.le_of_ble_eq_true rfl) ?_
      refine so_if_ne (pc := 25) hX 30 dX10_tone_25 (by decide) (fun hc9 => ?_) (fun hc9 => ?_)
      · have h := iq hc9 h
        refine so_aload_n (pc := 30) hX dX10_tone_30 0 rfl ?_
        refine so_gR (pc := 31) hX 5 dX10_tone_31 fl_X10_22 (ekM hL rfl) (erM hL rfl) ?_
        refine so_iload_n (pc := 34) hX dX10_tone_34 1 rfl ?_
        refine so_iload_n (pc := 35) hX dX10_tone_35 2 rfl ?_
        obtain ⟨μ10, hr, h⟩ := ob h
        refine so_iast (pc := 36) hX dX10_tone_36 (ekM hL rfl) (elM hL rfl) hr ?_
        refine so_aload_n (pc := 37) hX dX10_tone_37 0 rfl ?_
        refine so_gR (pc := 38) hX 6 dX10_tone_38 fl_X10_25 (ekM hL rfl) (erM hL rfl) ?_
        refine so_iload_n (pc := 41) hX dX10_tone_41 1 rfl ?_
        refine so_iload_n (pc := 42) hX dX10_tone_42 3 rfl ?_
        obtain ⟨μ11, hr, h⟩ := ob h
        refine so_iast (pc := 43) hX dX10_tone_43 (ekM hL rfl) (elM hL rfl) hr ?_
        refine so_iconst (v := (1 : Int32)) (pc := 44) hX dX10_tone_44 (by decide) ?_
        exact so_iretH (pc := 45) hX hR h (by decide) dX10_tone_45
      · have h := ip hc9 h
        refine so_iconst (v := (0 : Int32)) (pc := 28) hX dX10_tone_28 (by decide) ?_
        exact so_iretH (pc := 29) hX hR h (by decide) dX10_tone_29
set_option maxHeartbeats 4000000 in
set_option maxRecDepth 100000 in
theorem c_X10_flaw {l : Launch} {V : Ev} (hL : V.2.2.2 = lyM) {v1 : Int32} {v2 : Int32} {v3 : Int32} {v4 : Int32} {v5 : Int32} {v6 : Int32}  {μ : Mem} {rZ : Int32} {μZ : Mem} (h : f_X10_flaw v1 v2 v3 v4 v5 v6 μ = some (rZ, μZ)) : CT l V yX10_flaw cX10_flaw 8 (some .int) 2 [.ref (evA V 0), .int v1, .int v2, .int v3, .int v4, .int v5, .int v6] μ μZ (some (.int rZ)) := by
  refine so_met [(0, .ref (evA V 0)), (1, .int v1), (2, .int v2), (3, .int v3), (4, .int v4), (5, .int v5), (6, .int v6)] (by decide) (Nat.le_of_ble_eq_true rfl) (evMn hL) rfl ?_
  intro X hl hV hn hX hR
  subst hl hV
  unfold f_X10_flaw at h
  refine so_aload_n (pc := 0) hX dX10_flaw_0 0 rfl ?_
  refine so_iload_n (pc := 1) hX dX10_flaw_1 1 rfl ?_
  refine so_iload_n (pc := 2) hX dX10_flaw_2 2 rfl ?_
  obtain ⟨r2, μ1, hr, h⟩ := obd h
  refine so_callV (As := [.int v1, .int v2]) (rest := []) (pc := 3) hX dX10_flaw_3 (c_X10_isLeaf hL hr) mw_X10_isLeaf mv_X10_isLeaf ml_X10_182 (ekM hL rfl) (by decide) rfl rfl rfl rfl (by omega) (by decide) (Nat.le_of_ble_eq_true rfl) ?_
  refine so_if_eq (pc := 6) hX 63 dX10_flaw_6 (by decide) (fun hc3 => ?_) (fun hc3 => ?_)
  · have h := ip hc3 h
    refine so_iconst (v := (-1 : Int32)) (pc := 63) hX dX10_flaw_63 (by decide) ?_
    exact so_iretH (pc := 64) hX hR h rfl dX10_flaw_64
  · have h := iq hc3 h
    refine so_iload_n (pc := 9) hX dX10_flaw_9 3 rfl ?_
    refine so_iconst (v := (0 : Int32)) (pc := 10) hX dX10_flaw_10 (by decide) ?_
    refine so_bipush (v := (100 : Int32)) (pc := 11) hX dX10_flaw_11 (by decide) ?_
    obtain ⟨r5, μ4, hr, h⟩ := obd h
    refine so_callS (As := [.int v3, .int (0 : Int32), .int (100 : Int32)]) (rest := []) (pc := 13) hX dX10_flaw_13 (c_X10_isIn hL hr) mw_X10_isIn ms_X10_isIn ml_X10_174 rfl rfl (by omega) (by decide) (Nat.le_of_ble_eq_true rfl) ?_
    refine so_if_eq (pc := 16) hX 63 dX10_flaw_16 (by decide) (fun hc6 => ?_) (fun hc6 => ?_)
    · have h := ip hc6 h
      refine so_iconst (v := (-1 : Int32)) (pc := 63) hX dX10_flaw_63 (by decide) ?_
      exact so_iretH (pc := 64) hX hR h rfl dX10_flaw_64
    · have h := iq hc6 h
      refine so_iload (pc := 19) hX dX10_flaw_19 4 rfl ?_
      refine so_iconst (v := (0 : Int32)) (pc := 21) hX dX10_flaw_21 (by decide) ?_
      refine so_bipush (v := (100 : Int32)) (pc := 22) hX dX10_flaw_22 (by decide) ?_
      obtain ⟨r8, μ7, hr, h⟩ := obd h
      refine so_callS (As := [.int v4, .int (0 : Int32), .int (100 : Int32)]) (rest := []) (pc := 24) hX dX10_flaw_24 (c_X10_isIn hL hr) mw_X10_isIn ms_X10_isIn ml_X10_174 rfl rfl (by omega) (by decide) (Nat.le_of_ble_eq_true rfl) ?_
      refine so_if_eq (pc := 27) hX 63 dX10_flaw_27 (by decide) (fun hc9 => ?_) (fun hc9 => ?_)
      · have h := ip hc9 h
        refine so_iconst (v := (-1 : Int32)) (pc := 63) hX dX10_flaw_63 (by decide) ?_
        exact so_iretH (pc := 64) hX hR h rfl dX10_flaw_64
      · have h := iq hc9 h
        refine so_iload (pc := 30) hX dX10_flaw_30 5 rfl ?_
        refine so_iconst (v := (1 : Int32)) (pc := 32) hX dX10_flaw_32 (by decide) ?_
        refine so_bipush (v := (100 : Int32)) (pc := 33) hX dX10_flaw_33 (by decide) ?_
        obtain ⟨r11, μ10, hr, h⟩ := obd h
        refine so_callS (As := [.int v5, .int (1 : Int32), .int (100 : Int32)]) (rest := []) (pc := 35) hX dX10_flaw_35 (c_X10_isIn hL hr) mw_X10_isIn ms_X10_isIn ml_X10_174 rfl rfl (by omega) (by decide) (Nat.le_of_ble_eq_true rfl) ?_
        refine so_if_eq (pc := 38) hX 63 dX10_flaw_38 (by decide) (fun hc12 => ?_) (fun hc12 => ?_)
        · have h := ip hc12 h
          refine so_iconst (v := (-1 : Int32)) (pc := 63) hX dX10_flaw_63 (by decide) ?_
          exact so_iretH (pc := 64) hX hR h rfl dX10_flaw_64
        · have h := iq hc12 h
          refine so_iload (pc := 41) hX dX10_flaw_41 6 rfl ?_
          refine so_iconst (v := (1 : Int32)) (pc := 43) hX dX10_flaw_43 (by decide) ?_
          refine so_bipush (v := (100 : Int32)) (pc := 44) hX dX10_flaw_44 (by decide) ?_
          obtain ⟨r14, μ13, hr, h⟩ := obd h
          refine so_callS (As := [.int v6, .int (1 : Int32), .int (100 : Int32)]) (rest := []) (pc := 46) hX dX10_flaw_46 (c_X10_isIn hL hr) mw_X10_isIn ms_X10_isIn ml_X10_174 rfl rfl (by omega) (by decide) (Nat.le_of_ble_eq_true rfl) ?_
          refine so_if_eq (pc := 49) hX 63 dX10_flaw_49 (by decide) (fun hc15 => ?_) (fun hc15 => ?_)
          · have h := ip hc15 h
            refine so_iconst (v := (-1 : Int32)) (pc := 63) hX dX10_flaw_63 (by decide) ?_
            exact so_iretH (pc := 64) hX hR h rfl dX10_flaw_64
          · have h := iq hc15 h
            refine so_aload_n (pc := 52) hX dX10_flaw_52 0 rfl ?_
            refine so_gR (pc := 53) hX 7 dX10_flaw_53 fl_X10_28 (ekM hL rfl) (erM hL rfl) ?_
            refine so_iload_n (pc := 56) hX dX10_flaw_56 1 rfl ?_
            obtain ⟨e16, hr, h⟩ := ob h
            refine so_iald (pc := 57) hX dX10_flaw_57 (ekM hL rfl) (elM hL rfl) hr ?_
            refine so_bipush (v := (10 : Int32)) (pc := 58) hX dX10_flaw_58 (by decide) ?_
            refine so_icmp_ne (pc := 60) hX 65 dX10_flaw_60 (by decide) (fun hc17 => ?_) (fun hc17 => ?_)
            · have h := iq hc17 h
              refine so_bipush (v := (10 : Int32)) (pc := 65) hX dX10_flaw_65 (by decide) ?_
              refine so_iload_n (pc := 67) hX dX10_flaw_67 1 rfl ?_
              refine so_imul (pc := 68) hX dX10_flaw_68 ?_
              refine so_aload_n (pc := 69) hX dX10_flaw_69 0 rfl ?_
              refine so_gR (pc := 70) hX 7 dX10_flaw_70 fl_X10_28 (ekM hL rfl) (erM hL rfl) ?_
              refine so_iload_n (pc := 73) hX dX10_flaw_73 1 rfl ?_
              obtain ⟨e18, hr, h⟩ := ob h
              refine so_iald (pc := 74) hX dX10_flaw_74 (ekM hL rfl) (elM hL rfl) hr ?_
              refine so_iadd (pc := 75) hX dX10_flaw_75 ?_
              refine so_istore (pc := 76) hX dX10_flaw_76 [(7, .int (((10 : Int32) * v1) + e18)), (0, .ref (evA (xV X) 0)), (1, .int v1), (2, .int v2), (3, .int v3), (4, .int v4), (5, .int v5), (6, .int v6)] (by rw [hn]; decide) rfl ?_
              refine so_aload_n (pc := 78) hX dX10_flaw_78 1 rfl ?_
              refine so_gR (pc := 79) hX 8 dX10_flaw_79 fl_X10_31 (ekM hL rfl) (erM hL rfl) ?_
              refine so_iload (pc := 82) hX dX10_flaw_82 0 rfl ?_
              refine so_iload_n (pc := 84) hX dX10_flaw_84 3 rfl ?_
              obtain ⟨μ19, hr, h⟩ := ob h
              refine so_iast (pc := 85) hX dX10_flaw_85 (ekM hL rfl) (elM hL rfl) hr ?_
              refine so_aload_n (pc := 86) hX dX10_flaw_86 1 rfl ?_
              refine so_gR (pc := 87) hX 9 dX10_flaw_87 fl_X10_34 (ekM hL rfl) (erM hL rfl) ?_
              refine so_iload (pc := 90) hX dX10_flaw_90 0 rfl ?_
              refine so_iload_n (pc := 92) hX dX10_flaw_92 3 rfl ?_
              obtain ⟨μ20, hr, h⟩ := ob h
              refine so_iast (pc := 93) hX dX10_flaw_93 (ekM hL rfl) (elM hL rfl) hr ?_
              refine so_aload_n (pc := 94) hX dX10_flaw_94 1 rfl ?_
              refine so_gR (pc := 95) hX 10 dX10_flaw_95 fl_X10_37 (ekM hL rfl) (erM hL rfl) ?_
              refine so_iload (pc := 98) hX dX10_flaw_98 0 rfl ?_
              refine so_iload_n (pc := 100) hX dX10_flaw_100 4 rfl ?_
              obtain ⟨μ21, hr, h⟩ := ob h
              refine so_iast (pc := 101) hX dX10_flaw_101 (ekM hL rfl) (elM hL rfl) hr ?_
              refine so_aload_n (pc := 102) hX dX10_flaw_102 1 rfl ?_
              refine so_gR (pc := 103) hX 11 dX10_flaw_103 fl_X10_40 (ekM hL rfl) (erM hL rfl) ?_
              refine so_iload (pc := 106) hX dX10_flaw_106 0 rfl ?_
              refine so_iload (pc := 108) hX dX10_flaw_108 5 rfl ?_
              obtain ⟨μ22, hr, h⟩ := ob h
              refine so_iast (pc := 110) hX dX10_flaw_110 (ekM hL rfl) (elM hL rfl) hr ?_
              refine so_aload_n (pc := 111) hX dX10_flaw_111 1 rfl ?_
              refine so_gR (pc := 112) hX 12 dX10_flaw_112 fl_X10_43 (ekM hL rfl) (erM hL rfl) ?_
              refine so_iload (pc := 115) hX dX10_flaw_115 0 rfl ?_
              refine so_iconst (v := (0 : Int32)) (pc := 117) hX dX10_flaw_117 (by decide) ?_
              obtain ⟨μ23, hr, h⟩ := ob h
              refine so_iast (pc := 118) hX dX10_flaw_118 (ekM hL rfl) (elM hL rfl) hr ?_
              refine so_aload_n (pc := 119) hX dX10_flaw_119 1 rfl ?_
              refine so_gR (pc := 120) hX 13 dX10_flaw_120 fl_X10_46 (ekM hL rfl) (erM hL rfl) ?_
              refine so_iload (pc := 123) hX dX10_flaw_123 0 rfl ?_
              refine so_iconst (v := (0 : Int32)) (pc := 125) hX dX10_flaw_125 (by decide) ?_
              obtain ⟨μ24, hr, h⟩ := ob h
              refine so_iast (pc := 126) hX dX10_flaw_126 (ekM hL rfl) (elM hL rfl) hr ?_
              refine so_aload_n (pc := 127) hX dX10_flaw_127 1 rfl ?_
              refine so_gR (pc := 128) hX 14 dX10_flaw_128 fl_X10_49 (ekM hL rfl) (erM hL rfl) ?_
              refine so_iload (pc := 131) hX dX10_flaw_131 0 rfl ?_
              refine so_iload (pc := 133) hX dX10_flaw_133 6 rfl ?_
              obtain ⟨μ25, hr, h⟩ := ob h
              refine so_iast (pc := 135) hX dX10_flaw_135 (ekM hL rfl) (elM hL rfl) hr ?_
              refine so_aload_n (pc := 136) hX dX10_flaw_136 1 rfl ?_
              refine so_gR (pc := 137) hX 15 dX10_flaw_137 fl_X10_52 (ekM hL rfl) (erM hL rfl) ?_
              refine so_iload (pc := 140) hX dX10_flaw_140 0 rfl ?_
              refine so_iload (pc := 142) hX dX10_flaw_142 7 rfl ?_
              obtain ⟨μ26, hr, h⟩ := ob h
              refine so_iast (pc := 144) hX dX10_flaw_144 (ekM hL rfl) (elM hL rfl) hr ?_
              refine so_aload_n (pc := 145) hX dX10_flaw_145 1 rfl ?_
              refine so_gR (pc := 146) hX 7 dX10_flaw_146 fl_X10_28 (ekM hL rfl) (erM hL rfl) ?_
              refine so_iload_n (pc := 149) hX dX10_flaw_149 2 rfl ?_
              refine so_dup2 (pc := 150) hX dX10_flaw_150 rfl rfl ?_
              obtain ⟨e27, hr, h⟩ := ob h
              refine so_iald (pc := 151) hX dX10_flaw_151 (ekM hL rfl) (elM hL rfl) hr ?_
              refine so_iconst (v := (1 : Int32)) (pc := 152) hX dX10_flaw_152 (by decide) ?_
              refine so_iadd (pc := 153) hX dX10_flaw_153 ?_
              obtain ⟨μ28, hr, h⟩ := ob h
              refine so_iast (pc := 154) hX dX10_flaw_154 (ekM hL rfl) (elM hL rfl) hr ?_
              refine so_aload_n (pc := 155) hX dX10_flaw_155 1 rfl ?_
              refine so_gR (pc := 156) hX 7 dX10_flaw_156 fl_X10_28 (ekM hL rfl) (erM hL rfl) ?_
              refine so_iload_n (pc := 159) hX dX10_flaw_159 2 rfl ?_
              obtain ⟨e29, hr, h⟩ := ob h
              refine so_iald (pc := 160) hX dX10_flaw_160 (ekM hL rfl) (elM hL rfl) hr ?_
              refine so_iconst (v := (1 : Int32)) (pc := 161) hX dX10_flaw_161 (by decide) ?_
              refine so_isub (pc := 162) hX dX10_flaw_162 ?_
              exact so_iretH (pc := 163) hX hR h rfl dX10_flaw_163
            · have h := ip hc17 h
              refine so_iconst (v := (-1 : Int32)) (pc := 63) hX dX10_flaw_63 (by decide) ?_
              exact so_iretH (pc := 64) hX hR h rfl dX10_flaw_64
set_option maxHeartbeats 4000000 in
set_option maxRecDepth 100000 in
theorem c_X10_drift {l : Launch} {V : Ev} (hL : V.2.2.2 = lyM) {v1 : Int32} {v2 : Int32} {v3 : Int32} {v4 : Int32}  {μ : Mem} {rZ : Int32} {μZ : Mem} (h : f_X10_drift v1 v2 v3 v4 μ = some (rZ, μZ)) : CT l V yX10_drift cX10_drift 6 (some .boolean) 2 [.ref (evA V 0), .int v1, .int v2, .int v3, .int v4] μ μZ (some (.int rZ)) := by
  refine so_met [(0, .ref (evA V 0)), (1, .int v1), (2, .int v2), (3, .int v3), (4, .int v4)] (by decide) (Nat.le_of_ble_eq_true rfl) (evMn hL) rfl ?_
  intro X hl hV hn hX hR
  subst hl hV
  unfold f_X10_drift at h
  refine so_aload_n (pc := 0) hX dX10_drift_0 0 rfl ?_
  refine so_iload_n (pc := 1) hX dX10_drift_1 1 rfl ?_
  refine so_iload_n (pc := 2) hX dX10_drift_2 2 rfl ?_
  obtain ⟨r2, μ1, hr, h⟩ := obd h
  refine so_callV (As := [.int v1, .int v2]) (rest := []) (pc := 3) hX dX10_drift_3 (c_X10_isLeaf hL hr) mw_X10_isLeaf mv_X10_isLeaf ml_X10_182 (ekM hL rfl) (by decide) rfl rfl rfl rfl (by omega) (by decide) (Nat.le_of_ble_eq_true rfl) ?_
  refine so_if_eq (pc := 6) hX 41 dX10_drift_6 (by decide) (fun hc3 => ?_) (fun hc3 => ?_)
  · have h := ip hc3 h
    refine so_iconst (v := (0 : Int32)) (pc := 41) hX dX10_drift_41 (by decide) ?_
    exact so_iretH (pc := 42) hX hR h (by decide) dX10_drift_42
  · have h := iq hc3 h
    refine so_aload_n (pc := 9) hX dX10_drift_9 0 rfl ?_
    refine so_gR (pc := 10) hX 7 dX10_drift_10 fl_X10_28 (ekM hL rfl) (erM hL rfl) ?_
    refine so_iload_n (pc := 13) hX dX10_drift_13 1 rfl ?_
    obtain ⟨e4, hr, h⟩ := ob h
    refine so_iald (pc := 14) hX dX10_drift_14 (ekM hL rfl) (elM hL rfl) hr ?_
    refine so_if_eq (pc := 15) hX 41 dX10_drift_15 (by decide) (fun hc5 => ?_) (fun hc5 => ?_)
    · have h := ip hc5 h
      refine so_iconst (v := (0 : Int32)) (pc := 41) hX dX10_drift_41 (by decide) ?_
      exact so_iretH (pc := 42) hX hR h (by decide) dX10_drift_42
    · have h := iq hc5 h
      refine so_iload_n (pc := 18) hX dX10_drift_18 3 rfl ?_
      refine so_bipush (v := (-20 : Int32)) (pc := 19) hX dX10_drift_19 (by decide) ?_
      refine so_bipush (v := (20 : Int32)) (pc := 21) hX dX10_drift_21 (by decide) ?_
      obtain ⟨r7, μ6, hr, h⟩ := obd h
      refine so_callS (As := [.int v3, .int (-20 : Int32), .int (20 : Int32)]) (rest := []) (pc := 23) hX dX10_drift_23 (c_X10_isIn hL hr) mw_X10_isIn ms_X10_isIn ml_X10_174 rfl rfl (by omega) (by decide) (Nat.le_of_ble_eq_true rfl) ?_
      refine so_if_eq (pc := 26) hX 41 dX10_drift_26 (by decide) (fun hc8 => ?_) (fun hc8 => ?_)
      · have h := ip hc8 h
        refine so_iconst (v := (0 : Int32)) (pc := 41) hX dX10_drift_41 (by decide) ?_
        exact so_iretH (pc := 42) hX hR h (by decide) dX10_drift_42
      · have h := iq hc8 h
        refine so_iload (pc := 29) hX dX10_drift_29 4 rfl ?_
        refine so_bipush (v := (-20 : Int32)) (pc := 31) hX dX10_drift_31 (by decide) ?_
        refine so_bipush (v := (20 : Int32)) (pc := 33) hX dX10_drift_33 (by decide) ?_
        obtain ⟨r10, μ9, hr, h⟩ := obd h
        refine so_callS (As := [.int v4, .int (-20 : Int32), .int (20 : Int32)]) (rest := []) (pc := 35) hX dX10_drift_35 (c_X10_isIn hL hr) mw_X10_isIn ms_X10_isIn ml_X10_174 rfl rfl (by omega) (by decide) (Nat.le_of_ble_eq_true rfl) ?_
        refine so_if_ne (pc := 38) hX 43 dX10_drift_38 (by decide) (fun hc11 => ?_) (fun hc11 => ?_)
        · have h := iq hc11 h
          refine so_bipush (v := (10 : Int32)) (pc := 43) hX dX10_drift_43 (by decide) ?_
          refine so_iload_n (pc := 45) hX dX10_drift_45 1 rfl ?_
          refine so_imul (pc := 46) hX dX10_drift_46 ?_
          refine so_aload_n (pc := 47) hX dX10_drift_47 0 rfl ?_
          refine so_gR (pc := 48) hX 7 dX10_drift_48 fl_X10_28 (ekM hL rfl) (erM hL rfl) ?_
          refine so_iload_n (pc := 51) hX dX10_drift_51 1 rfl ?_
          obtain ⟨e12, hr, h⟩ := ob h
          refine so_iald (pc := 52) hX dX10_drift_52 (ekM hL rfl) (elM hL rfl) hr ?_
          refine so_iadd (pc := 53) hX dX10_drift_53 ?_
          refine so_iconst (v := (1 : Int32)) (pc := 54) hX dX10_drift_54 (by decide) ?_
          refine so_isub (pc := 55) hX dX10_drift_55 ?_
          refine so_istore (pc := 56) hX dX10_drift_56 [(5, .int ((((10 : Int32) * v1) + e12) - (1 : Int32))), (0, .ref (evA (xV X) 0)), (1, .int v1), (2, .int v2), (3, .int v3), (4, .int v4)] (by rw [hn]; decide) rfl ?_
          refine so_iload_n (pc := 58) hX dX10_drift_58 3 rfl ?_
          refine so_aload_n (pc := 59) hX dX10_drift_59 1 rfl ?_
          refine so_gR (pc := 60) hX 8 dX10_drift_60 fl_X10_31 (ekM hL rfl) (erM hL rfl) ?_
          refine so_iload (pc := 63) hX dX10_drift_63 0 rfl ?_
          obtain ⟨e13, hr, h⟩ := ob h
          refine so_iald (pc := 65) hX dX10_drift_65 (ekM hL rfl) (elM hL rfl) hr ?_
          refine so_icmp_ge (pc := 66) hX 71 dX10_drift_66 (by decide) (fun hc14 => ?_) (fun hc14 => ?_)
          · have h := ip hc14 h
            refine so_aload_n (pc := 71) hX dX10_drift_71 1 rfl ?_
            refine so_gR (pc := 72) hX 9 dX10_drift_72 fl_X10_34 (ekM hL rfl) (erM hL rfl) ?_
            refine so_iload (pc := 75) hX dX10_drift_75 0 rfl ?_
            refine so_iload_n (pc := 77) hX dX10_drift_77 3 rfl ?_
            obtain ⟨μ15, hr, h⟩ := ob h
            refine so_iast (pc := 78) hX dX10_drift_78 (ekM hL rfl) (elM hL rfl) hr ?_
            refine so_aload_n (pc := 79) hX dX10_drift_79 1 rfl ?_
            refine so_gR (pc := 80) hX 12 dX10_drift_80 fl_X10_43 (ekM hL rfl) (erM hL rfl) ?_
            refine so_iload (pc := 83) hX dX10_drift_83 0 rfl ?_
            refine so_iload_n (pc := 85) hX dX10_drift_85 4 rfl ?_
            obtain ⟨μ16, hr, h⟩ := ob h
            refine so_iast (pc := 86) hX dX10_drift_86 (ekM hL rfl) (elM hL rfl) hr ?_
            refine so_aload_n (pc := 87) hX dX10_drift_87 1 rfl ?_
            refine so_gR (pc := 88) hX 13 dX10_drift_88 fl_X10_46 (ekM hL rfl) (erM hL rfl) ?_
            refine so_iload (pc := 91) hX dX10_drift_91 0 rfl ?_
            refine so_iload (pc := 93) hX dX10_drift_93 5 rfl ?_
            obtain ⟨μ17, hr, h⟩ := ob h
            refine so_iast (pc := 95) hX dX10_drift_95 (ekM hL rfl) (elM hL rfl) hr ?_
            refine so_iconst (v := (1 : Int32)) (pc := 96) hX dX10_drift_96 (by decide) ?_
            exact so_iretH (pc := 97) hX hR h (by decide) dX10_drift_97
          · have h := iq hc14 h
            refine so_iconst (v := (0 : Int32)) (pc := 69) hX dX10_drift_69 (by decide) ?_
            exact so_iretH (pc := 70) hX hR h (by decide) dX10_drift_70
        · have h := ip hc11 h
          refine so_iconst (v := (0 : Int32)) (pc := 41) hX dX10_drift_41 (by decide) ?_
          exact so_iretH (pc := 42) hX hR h (by decide) dX10_drift_42
set_option maxHeartbeats 4000000 in
set_option maxRecDepth 100000 in
theorem c_X10_laps {l : Launch} {V : Ev} (hL : V.2.2.2 = lyM) {v0 : Int32} {v1 : Int32} {v2 : Int32} {v3 : Int32} {v4 : Int32} {v5 : Int32} {v6 : Int32} {v7 : Int32}  {μ : Mem} {rZ : Int32} {μZ : Mem} (h : f_X10_laps v0 v1 v2 v3 v4 v5 v6 v7 μ = some (rZ, μZ)) : CT l V yX10_laps cX10_laps 8 (some .boolean) 0 [.int v0, .int v1, .int v2, .int v3, .int v4, .int v5, .int v6, .int v7] μ μZ (some (.int rZ)) := by
  refine so_met [(0, .int v0), (1, .int v1), (2, .int v2), (3, .int v3), (4, .int v4), (5, .int v5), (6, .int v6), (7, .int v7)] (by decide) (Nat.le_of_ble_eq_true rfl) (evMn hL) rfl ?_
  intro X hl hV hn hX hR
  subst hl hV
  unfold f_X10_laps at h
  refine so_iload_n (pc := 0) hX dX10_laps_0 0 rfl ?_
  refine so_iload (pc := 1) hX dX10_laps_1 4 rfl ?_
  refine so_iload (pc := 3) hX dX10_laps_3 6 rfl ?_
  refine so_iadd (pc := 5) hX dX10_laps_5 ?_
  refine so_icmp_ge (pc := 6) hX 38 dX10_laps_6 (by decide) (fun hc1 => ?_) (fun hc1 => ?_)
  · have h := ip hc1 h
    refine so_iconst (v := (0 : Int32)) (pc := 38) hX dX10_laps_38 (by decide) ?_
    exact so_iretH (pc := 39) hX hR h (by decide) dX10_laps_39
  · have h := iq hc1 h
    refine so_iload (pc := 9) hX dX10_laps_9 4 rfl ?_
    refine so_iload_n (pc := 11) hX dX10_laps_11 0 rfl ?_
    refine so_iload_n (pc := 12) hX dX10_laps_12 2 rfl ?_
    refine so_iadd (pc := 13) hX dX10_laps_13 ?_
    refine so_icmp_ge (pc := 14) hX 38 dX10_laps_14 (by decide) (fun hc2 => ?_) (fun hc2 => ?_)
    · have h := ip hc2 h
      refine so_iconst (v := (0 : Int32)) (pc := 38) hX dX10_laps_38 (by decide) ?_
      exact so_iretH (pc := 39) hX hR h (by decide) dX10_laps_39
    · have h := iq hc2 h
      refine so_iload_n (pc := 17) hX dX10_laps_17 1 rfl ?_
      refine so_iload (pc := 18) hX dX10_laps_18 5 rfl ?_
      refine so_iload (pc := 20) hX dX10_laps_20 7 rfl ?_
      refine so_iadd (pc := 22) hX dX10_laps_22 ?_
      refine so_icmp_ge (pc := 23) hX 38 dX10_laps_23 (by decide) (fun hc3 => ?_) (fun hc3 => ?_)
      · have h := ip hc3 h
        refine so_iconst (v := (0 : Int32)) (pc := 38) hX dX10_laps_38 (by decide) ?_
        exact so_iretH (pc := 39) hX hR h (by decide) dX10_laps_39
      · have h := iq hc3 h
        refine so_iload (pc := 26) hX dX10_laps_26 5 rfl ?_
        refine so_iload_n (pc := 28) hX dX10_laps_28 1 rfl ?_
        refine so_iload_n (pc := 29) hX dX10_laps_29 3 rfl ?_
        refine so_iadd (pc := 30) hX dX10_laps_30 ?_
        refine so_icmp_ge (pc := 31) hX 38 dX10_laps_31 (by decide) (fun hc4 => ?_) (fun hc4 => ?_)
        · have h := ip hc4 h
          refine so_iconst (v := (0 : Int32)) (pc := 38) hX dX10_laps_38 (by decide) ?_
          exact so_iretH (pc := 39) hX hR h (by decide) dX10_laps_39
        · have h := iq hc4 h
          refine so_iconst (v := (1 : Int32)) (pc := 34) hX dX10_laps_34 (by decide) ?_
          refine so_goto (pc := 35) hX 39 dX10_laps_35 (by decide) ?_
          exact so_iretH (pc := 39) hX hR h (by decide) dX10_laps_39
set_option maxHeartbeats 4000000 in
set_option maxRecDepth 100000 in
theorem c_X10_isFlawed {l : Launch} {V : Ev} (hL : V.2.2.2 = lyM) {v1 : Int32} {v2 : Int32} {v3 : Int32} {v4 : Int32} {v5 : Int32} {v6 : Int32}  {μ : Mem} {rZ : Int32} {μZ : Mem} (h : f_X10_isFlawed v1 v2 v3 v4 v5 v6 μ = some (rZ, μZ)) : CT l V yX10_isFlawed cX10_isFlawed 8 (some .boolean) 1 [.ref (evA V 0), .int v1, .int v2, .int v3, .int v4, .int v5, .int v6] μ μZ (some (.int rZ)) := by
  refine so_met [(0, .ref (evA V 0)), (1, .int v1), (2, .int v2), (3, .int v3), (4, .int v4), (5, .int v5), (6, .int v6)] (by decide) (Nat.le_of_ble_eq_true rfl) (evMn hL) rfl ?_
  intro X hl hV hn hX hR
  subst hl hV
  unfold f_X10_isFlawed at h
  refine so_iload_n (pc := 0) hX dX10_isFlawed_0 2 rfl ?_
  refine so_aload_n (pc := 1) hX dX10_isFlawed_1 0 rfl ?_
  refine so_gR (pc := 2) hX 8 dX10_isFlawed_2 fl_X10_31 (ekM hL rfl) (erM hL rfl) ?_
  refine so_iload_n (pc := 5) hX dX10_isFlawed_5 1 rfl ?_
  obtain ⟨e1, hr, h⟩ := ob h
  refine so_iald (pc := 6) hX dX10_isFlawed_6 (ekM hL rfl) (elM hL rfl) hr ?_
  refine so_icmp_lt (pc := 7) hX 20 dX10_isFlawed_7 (by decide) (fun hc2 => ?_) (fun hc2 => ?_)
  · have h := ip hc2 h
    refine so_iconst (v := (0 : Int32)) (pc := 20) hX dX10_isFlawed_20 (by decide) ?_
    exact so_iretH (pc := 21) hX hR h (by decide) dX10_isFlawed_21
  · have h := iq hc2 h
    refine so_iload_n (pc := 10) hX dX10_isFlawed_10 2 rfl ?_
    refine so_aload_n (pc := 11) hX dX10_isFlawed_11 0 rfl ?_
    refine so_gR (pc := 12) hX 9 dX10_isFlawed_12 fl_X10_34 (ekM hL rfl) (erM hL rfl) ?_
    refine so_iload_n (pc := 15) hX dX10_isFlawed_15 1 rfl ?_
    obtain ⟨e3, hr, h⟩ := ob h
    refine so_iald (pc := 16) hX dX10_isFlawed_16 (ekM hL rfl) (elM hL rfl) hr ?_
    refine so_icmp_le (pc := 17) hX 22 dX10_isFlawed_17 (by decide) (fun hc4 => ?_) (fun hc4 => ?_)
    · have h := ip hc4 h
      refine so_iload_n (pc := 22) hX dX10_isFlawed_22 2 rfl ?_
      refine so_aload_n (pc := 23) hX dX10_isFlawed_23 0 rfl ?_
      refine so_gR (pc := 24) hX 8 dX10_isFlawed_24 fl_X10_31 (ekM hL rfl) (erM hL rfl) ?_
      refine so_iload_n (pc := 27) hX dX10_isFlawed_27 1 rfl ?_
      obtain ⟨e5, hr, h⟩ := ob h
      refine so_iald (pc := 28) hX dX10_isFlawed_28 (ekM hL rfl) (elM hL rfl) hr ?_
      refine so_isub (pc := 29) hX dX10_isFlawed_29 ?_
      refine so_istore (pc := 30) hX dX10_isFlawed_30 [(7, .int (v2 - e5)), (0, .ref (evA (xV X) 0)), (1, .int v1), (2, .int v2), (3, .int v3), (4, .int v4), (5, .int v5), (6, .int v6)] (by rw [hn]; decide) rfl ?_
      refine so_aload_n (pc := 32) hX dX10_isFlawed_32 1 rfl ?_
      refine so_gR (pc := 33) hX 10 dX10_isFlawed_33 fl_X10_37 (ekM hL rfl) (erM hL rfl) ?_
      refine so_iload_n (pc := 36) hX dX10_isFlawed_36 2 rfl ?_
      obtain ⟨e6, hr, h⟩ := ob h
      refine so_iald (pc := 37) hX dX10_isFlawed_37 (ekM hL rfl) (elM hL rfl) hr ?_
      refine so_iload (pc := 38) hX dX10_isFlawed_38 0 rfl ?_
      refine so_aload_n (pc := 40) hX dX10_isFlawed_40 1 rfl ?_
      refine so_gR (pc := 41) hX 12 dX10_isFlawed_41 fl_X10_43 (ekM hL rfl) (erM hL rfl) ?_
      refine so_iload_n (pc := 44) hX dX10_isFlawed_44 2 rfl ?_
      obtain ⟨e7, hr, h⟩ := ob h
      refine so_iald (pc := 45) hX dX10_isFlawed_45 (ekM hL rfl) (elM hL rfl) hr ?_
      refine so_imul (pc := 46) hX dX10_isFlawed_46 ?_
      refine so_iadd (pc := 47) hX dX10_isFlawed_47 ?_
      refine so_aload_n (pc := 48) hX dX10_isFlawed_48 1 rfl ?_
      refine so_gR (pc := 49) hX 11 dX10_isFlawed_49 fl_X10_40 (ekM hL rfl) (erM hL rfl) ?_
      refine so_iload_n (pc := 52) hX dX10_isFlawed_52 2 rfl ?_
      obtain ⟨e8, hr, h⟩ := ob h
      refine so_iald (pc := 53) hX dX10_isFlawed_53 (ekM hL rfl) (elM hL rfl) hr ?_
      refine so_iload (pc := 54) hX dX10_isFlawed_54 0 rfl ?_
      refine so_aload_n (pc := 56) hX dX10_isFlawed_56 1 rfl ?_
      refine so_gR (pc := 57) hX 13 dX10_isFlawed_57 fl_X10_46 (ekM hL rfl) (erM hL rfl) ?_
      refine so_iload_n (pc := 60) hX dX10_isFlawed_60 2 rfl ?_
      obtain ⟨e9, hr, h⟩ := ob h
      refine so_iald (pc := 61) hX dX10_isFlawed_61 (ekM hL rfl) (elM hL rfl) hr ?_
      refine so_imul (pc := 62) hX dX10_isFlawed_62 ?_
      refine so_iadd (pc := 63) hX dX10_isFlawed_63 ?_
      refine so_aload_n (pc := 64) hX dX10_isFlawed_64 1 rfl ?_
      refine so_gR (pc := 65) hX 14 dX10_isFlawed_65 fl_X10_49 (ekM hL rfl) (erM hL rfl) ?_
      refine so_iload_n (pc := 68) hX dX10_isFlawed_68 2 rfl ?_
      obtain ⟨e10, hr, h⟩ := ob h
      refine so_iald (pc := 69) hX dX10_isFlawed_69 (ekM hL rfl) (elM hL rfl) hr ?_
      refine so_aload_n (pc := 70) hX dX10_isFlawed_70 1 rfl ?_
      refine so_gR (pc := 71) hX 15 dX10_isFlawed_71 fl_X10_52 (ekM hL rfl) (erM hL rfl) ?_
      refine so_iload_n (pc := 74) hX dX10_isFlawed_74 2 rfl ?_
      obtain ⟨e11, hr, h⟩ := ob h
      refine so_iald (pc := 75) hX dX10_isFlawed_75 (ekM hL rfl) (elM hL rfl) hr ?_
      refine so_iload_n (pc := 76) hX dX10_isFlawed_76 4 rfl ?_
      refine so_iload (pc := 77) hX dX10_isFlawed_77 5 rfl ?_
      refine so_iload (pc := 79) hX dX10_isFlawed_79 6 rfl ?_
      refine so_iload (pc := 81) hX dX10_isFlawed_81 7 rfl ?_
      obtain ⟨r13, μ12, hr, h⟩ := obd h
      refine so_callS (As := [.int (e6 + ((v2 - e5) * e7)), .int (e8 + ((v2 - e5) * e9)), .int e10, .int e11, .int v3, .int v4, .int v5, .int v6]) (rest := []) (pc := 83) hX dX10_isFlawed_83 (c_X10_laps hL hr) mw_X10_laps ms_X10_laps ml_X10_186 rfl rfl (by omega) (by decide) (Nat.le_of_ble_eq_true rfl) ?_
      exact so_zretH (pc := 86) hX hR h dX10_isFlawed_86
    · have h := iq hc4 h
      refine so_iconst (v := (0 : Int32)) (pc := 20) hX dX10_isFlawed_20 (by decide) ?_
      exact so_iretH (pc := 21) hX hR h (by decide) dX10_isFlawed_21
set_option maxHeartbeats 4000000 in
set_option maxRecDepth 100000 in
theorem g_X10_leaf_L73 {X : Cx} (hX : Fx X cX10_leaf RX10 2) (hL : (xV X).2.2.2 = lyM) (hn : xn X = 6) {rZ : Int32} {μZ : Mem} (hR : Rt X (some .int) μZ (some (.int rZ))) {v1 : Int32} {v2 : Int32}  {K : Int32 → Mem → Option (Int32 × Mem)} (hK : ∀ (v4 : Int32) (μ : Mem), K v4 μ = some (rZ, μZ) → Gd X 122 [(4, .int v4)] [] μ) : ∀ (n : Nat) (v4 : Int32) (v5 : Int32) (μ : Mem), f_X10_leaf_L73 v1 v2 K n v4 v5 μ = some (rZ, μZ) → Gd X 73 [(0, .ref (evA (xV X) 0)), (1, .int v1), (2, .int v2), (4, .int v4), (5, .int v5)] [] μ := by
  intro n
  induction n with
  | zero => intro _ _ _ h; rw [f_X10_leaf_L73] at h; cases h
  | succ n ih =>
    intro v4 v5 μ h
    rw [f_X10_leaf_L73] at h
    refine so_iload (pc := 73) hX dX10_leaf_73 4 rfl ?_
    refine so_aload_n (pc := 75) hX dX10_leaf_75 0 rfl ?_
    refine so_gR (pc := 76) hX 7 dX10_leaf_76 fl_X10_28 (ekM hL rfl) (erM hL rfl) ?_
    refine so_iload_n (pc := 79) hX dX10_leaf_79 1 rfl ?_
    obtain ⟨e11, hr, h⟩ := ob h
    refine so_iald (pc := 80) hX dX10_leaf_80 (ekM hL rfl) (elM hL rfl) hr ?_
    refine so_icmp_ge (pc := 81) hX 122 dX10_leaf_81 (by decide) (fun hc12 => ?_) (fun hc12 => ?_)
    · have h := ip hc12 h
      refine so_sub (pc := 122) (lv' := [(4, .int v4)]) [3] rfl ?_
      exact hK _ _ h
    · have h := iq hc12 h
      refine so_aload_n (pc := 84) hX dX10_leaf_84 0 rfl ?_
      refine so_bipush (v := (10 : Int32)) (pc := 85) hX dX10_leaf_85 (by decide) ?_
      refine so_iload_n (pc := 87) hX dX10_leaf_87 1 rfl ?_
      refine so_imul (pc := 88) hX dX10_leaf_88 ?_
      refine so_iload (pc := 89) hX dX10_leaf_89 4 rfl ?_
      refine so_iadd (pc := 91) hX dX10_leaf_91 ?_
      refine so_iload_n (pc := 92) hX dX10_leaf_92 2 rfl ?_
      refine so_iconst (v := (0 : Int32)) (pc := 93) hX dX10_leaf_93 (by decide) ?_
      refine so_iconst (v := (0 : Int32)) (pc := 94) hX dX10_leaf_94 (by decide) ?_
      refine so_aload_n (pc := 95) hX dX10_leaf_95 0 rfl ?_
      refine so_iload_n (pc := 96) hX dX10_leaf_96 1 rfl ?_
      refine so_iload_n (pc := 97) hX dX10_leaf_97 2 rfl ?_
      obtain ⟨r14, μ13, hr, h⟩ := obd h
      refine so_callV (As := [.int v1, .int v2]) (rest := [.int (0 : Int32), .int (0 : Int32), .int v2, .int (((10 : Int32) * v1) + v5), .ref (evA (xV X) 0)]) (pc := 98) hX dX10_leaf_98 (c_X10_widthOf hL hr) mw_X10_widthOf mv_X10_widthOf ml_X10_190 (ekM hL rfl) (by decide) rfl rfl rfl rfl (by omega) (by decide) (Nat.le_of_ble_eq_true rfl) ?_
      refine so_aload_n (pc := 101) hX dX10_leaf_101 0 rfl ?_
      refine so_gR (pc := 102) hX 2 dX10_leaf_102 fl_X10_13 (ekM hL rfl) (erM hL rfl) ?_
      refine so_iload_n (pc := 105) hX dX10_leaf_105 1 rfl ?_
      obtain ⟨e15, hr, h⟩ := ob h
      refine so_iald (pc := 106) hX dX10_leaf_106 (ekM hL rfl) (elM hL rfl) hr ?_
      obtain ⟨r17, μ16, hr, h⟩ := obd h
      refine so_callV (As := [.int (((10 : Int32) * v1) + v5), .int v2, .int (0 : Int32), .int (0 : Int32), .int r14, .int e15]) (rest := []) (pc := 107) hX dX10_leaf_107 (c_X10_isFlawed hL hr) mw_X10_isFlawed mv_X10_isFlawed ml_X10_197 (ekM hL rfl) (by decide) rfl rfl rfl rfl (by omega) (by decide) (Nat.le_of_ble_eq_true rfl) ?_
      refine so_if_eq (pc := 110) hX 116 dX10_leaf_110 (by decide) (fun hc18 => ?_) (fun hc18 => ?_)
      · have h := ip hc18 h
        refine so_iinc (pc := 116) hX dX10_leaf_116 4 (1 : Int32) [(5, .int (v5 + (1 : Int32))), (0, .ref (evA (xV X) 0)), (1, .int v1), (2, .int v2), (4, .int v4)] rfl (by decide) (by rw [hn]; decide) rfl ?_
        refine so_goto (pc := 119) hX 73 dX10_leaf_119 (by decide) ?_
        refine so_sub (pc := 73) (lv' := [(0, .ref (evA (xV X) 0)), (1, .int v1), (2, .int v2), (4, .int v4), (5, .int (v5 + (1 : Int32)))]) [1, 2, 3, 4, 0] rfl ?_
        exact ih _ _ _ h
      · have h := iq hc18 h
        refine so_iinc (pc := 113) hX dX10_leaf_113 3 (1 : Int32) [(4, .int (v4 + (1 : Int32))), (0, .ref (evA (xV X) 0)), (1, .int v1), (2, .int v2), (5, .int v5)] rfl (by decide) (by rw [hn]; decide) rfl ?_
        refine so_iinc (pc := 116) hX dX10_leaf_116 4 (1 : Int32) [(5, .int (v5 + (1 : Int32))), (4, .int (v4 + (1 : Int32))), (0, .ref (evA (xV X) 0)), (1, .int v1), (2, .int v2)] rfl (by decide) (by rw [hn]; decide) rfl ?_
        refine so_goto (pc := 119) hX 73 dX10_leaf_119 (by decide) ?_
        refine so_sub (pc := 73) (lv' := [(0, .ref (evA (xV X) 0)), (1, .int v1), (2, .int v2), (4, .int (v4 + (1 : Int32))), (5, .int (v5 + (1 : Int32)))]) [2, 3, 4, 1, 0] rfl ?_
        exact ih _ _ _ h
set_option maxHeartbeats 4000000 in
set_option maxRecDepth 100000 in
theorem g_X10_leaf_L128 {X : Cx} (hX : Fx X cX10_leaf RX10 2) (hL : (xV X).2.2.2 = lyM) (hn : xn X = 6) {rZ : Int32} {μZ : Mem} (hR : Rt X (some .int) μZ (some (.int rZ))) {v1 : Int32} {v2 : Int32}  {K : Int32 → Mem → Option (Int32 × Mem)} (hK : ∀ (v4 : Int32) (μ : Mem), K v4 μ = some (rZ, μZ) → Gd X 177 [(4, .int v4)] [] μ) : ∀ (n : Nat) (v4 : Int32) (v5 : Int32) (μ : Mem), f_X10_leaf_L128 v1 v2 K n v4 v5 μ = some (rZ, μZ) → Gd X 128 [(0, .ref (evA (xV X) 0)), (1, .int v1), (2, .int v2), (4, .int v4), (5, .int v5)] [] μ := by
  intro n
  induction n with
  | zero => intro _ _ _ h; rw [f_X10_leaf_L128] at h; cases h
  | succ n ih =>
    intro v4 v5 μ h
    rw [f_X10_leaf_L128] at h
    refine so_iload (pc := 128) hX dX10_leaf_128 4 rfl ?_
    refine so_aload_n (pc := 130) hX dX10_leaf_130 0 rfl ?_
    refine so_gI (pc := 131) hX dX10_leaf_131 fl_X10_171 (ekM hL rfl) ?_
    refine so_icmp_ge (pc := 134) hX 177 dX10_leaf_134 (by decide) (fun hc22 => ?_) (fun hc22 => ?_)
    · have h := ip hc22 h
      refine so_sub (pc := 177) (lv' := [(4, .int v4)]) [3] rfl ?_
      exact hK _ _ h
    · have h := iq hc22 h
      refine so_aload_n (pc := 137) hX dX10_leaf_137 0 rfl ?_
      refine so_gR (pc := 138) hX 16 dX10_leaf_138 fl_X10_55 (ekM hL rfl) (erM hL rfl) ?_
      refine so_iload (pc := 141) hX dX10_leaf_141 4 rfl ?_
      obtain ⟨e23, hr, h⟩ := ob h
      refine so_iald (pc := 143) hX dX10_leaf_143 (ekM hL rfl) (elM hL rfl) hr ?_
      refine so_iload_n (pc := 144) hX dX10_leaf_144 1 rfl ?_
      refine so_icmp_ne (pc := 145) hX 171 dX10_leaf_145 (by decide) (fun hc24 => ?_) (fun hc24 => ?_)
      · have h := iq hc24 h
        refine so_iinc (pc := 171) hX dX10_leaf_171 4 (1 : Int32) [(5, .int (v5 + (1 : Int32))), (0, .ref (evA (xV X) 0)), (1, .int v1), (2, .int v2), (4, .int v4)] rfl (by decide) (by rw [hn]; decide) rfl ?_
        refine so_goto (pc := 174) hX 128 dX10_leaf_174 (by decide) ?_
        refine so_sub (pc := 128) (lv' := [(0, .ref (evA (xV X) 0)), (1, .int v1), (2, .int v2), (4, .int v4), (5, .int (v5 + (1 : Int32)))]) [1, 2, 3, 4, 0] rfl ?_
        exact ih _ _ _ h
      · have h := ip hc24 h
        refine so_aload_n (pc := 148) hX dX10_leaf_148 0 rfl ?_
        refine so_gR (pc := 149) hX 17 dX10_leaf_149 fl_X10_58 (ekM hL rfl) (erM hL rfl) ?_
        refine so_iload (pc := 152) hX dX10_leaf_152 4 rfl ?_
        obtain ⟨e25, hr, h⟩ := ob h
        refine so_iald (pc := 154) hX dX10_leaf_154 (ekM hL rfl) (elM hL rfl) hr ?_
        refine so_iload_n (pc := 155) hX dX10_leaf_155 2 rfl ?_
        refine so_icmp_ne (pc := 156) hX 171 dX10_leaf_156 (by decide) (fun hc26 => ?_) (fun hc26 => ?_)
        · have h := iq hc26 h
          refine so_iinc (pc := 171) hX dX10_leaf_171 4 (1 : Int32) [(5, .int (v5 + (1 : Int32))), (0, .ref (evA (xV X) 0)), (1, .int v1), (2, .int v2), (4, .int v4)] rfl (by decide) (by rw [hn]; decide) rfl ?_
          refine so_goto (pc := 174) hX 128 dX10_leaf_174 (by decide) ?_
          refine so_sub (pc := 128) (lv' := [(0, .ref (evA (xV X) 0)), (1, .int v1), (2, .int v2), (4, .int v4), (5, .int (v5 + (1 : Int32)))]) [1, 2, 3, 4, 0] rfl ?_
          exact ih _ _ _ h
        · have h := ip hc26 h
          refine so_iload (pc := 159) hX dX10_leaf_159 3 rfl ?_
          refine so_aload_n (pc := 161) hX dX10_leaf_161 0 rfl ?_
          refine so_gR (pc := 162) hX 22 dX10_leaf_162 fl_X10_73 (ekM hL rfl) (erM hL rfl) ?_
          refine so_iload (pc := 165) hX dX10_leaf_165 4 rfl ?_
          obtain ⟨e27, hr, h⟩ := ob h
          refine so_iald (pc := 167) hX dX10_leaf_167 (ekM hL rfl) (elM hL rfl) hr ?_
          refine so_iadd (pc := 168) hX dX10_leaf_168 ?_
          refine so_istore (pc := 169) hX dX10_leaf_169 [(4, .int (v4 + e27)), (0, .ref (evA (xV X) 0)), (1, .int v1), (2, .int v2), (5, .int v5)] (by rw [hn]; decide) rfl ?_
          refine so_iinc (pc := 171) hX dX10_leaf_171 4 (1 : Int32) [(5, .int (v5 + (1 : Int32))), (4, .int (v4 + e27)), (0, .ref (evA (xV X) 0)), (1, .int v1), (2, .int v2)] rfl (by decide) (by rw [hn]; decide) rfl ?_
          refine so_goto (pc := 174) hX 128 dX10_leaf_174 (by decide) ?_
          refine so_sub (pc := 128) (lv' := [(0, .ref (evA (xV X) 0)), (1, .int v1), (2, .int v2), (4, .int (v4 + e27)), (5, .int (v5 + (1 : Int32)))]) [2, 3, 4, 1, 0] rfl ?_
          exact ih _ _ _ h
set_option maxHeartbeats 4000000 in
set_option maxRecDepth 100000 in
theorem c_X10_leaf {l : Launch} {V : Ev} (hL : V.2.2.2 = lyM) {v1 : Int32} {v2 : Int32} {v3 : Int32}  {μ : Mem} {rZ : Int32} {μZ : Mem} (h : f_X10_leaf v1 v2 v3 μ = some (rZ, μZ)) : CT l V yX10_leaf cX10_leaf 6 (some .int) 2 [.ref (evA V 0), .int v1, .int v2, .int v3] μ μZ (some (.int rZ)) := by
  refine so_met [(0, .ref (evA V 0)), (1, .int v1), (2, .int v2), (3, .int v3)] (by decide) (Nat.le_of_ble_eq_true rfl) (evMn hL) rfl ?_
  intro X hl hV hn hX hR
  subst hl hV
  unfold f_X10_leaf at h
  refine so_aload_n (pc := 0) hX dX10_leaf_0 0 rfl ?_
  refine so_iload_n (pc := 1) hX dX10_leaf_1 1 rfl ?_
  refine so_iload_n (pc := 2) hX dX10_leaf_2 2 rfl ?_
  obtain ⟨r2, μ1, hr, h⟩ := obd h
  refine so_callV (As := [.int v1, .int v2]) (rest := []) (pc := 3) hX dX10_leaf_3 (c_X10_isLeaf hL hr) mw_X10_isLeaf mv_X10_isLeaf ml_X10_182 (ekM hL rfl) (by decide) rfl rfl rfl rfl (by omega) (by decide) (Nat.le_of_ble_eq_true rfl) ?_
  refine so_if_ne (pc := 6) hX 13 dX10_leaf_6 (by decide) (fun hc3 => ?_) (fun hc3 => ?_)
  · have h := iq hc3 h
    refine so_iconst (v := (0 : Int32)) (pc := 13) hX dX10_leaf_13 (by decide) ?_
    refine so_istore (pc := 14) hX dX10_leaf_14 [(4, .int (0 : Int32)), (0, .ref (evA (xV X) 0)), (1, .int v1), (2, .int v2), (3, .int v3)] (by rw [hn]; decide) rfl ?_
    refine so_iload_n (pc := 16) hX dX10_leaf_16 4 rfl ?_
    by_cases hc4 : v3 = (0 : Int32)
    · have h := ip hc4 h
      refine so_tabIn (off := 39) (pc := 17) hX 56 dX10_leaf_17 (by rw [hc4]; decide) (by rw [hc4]; decide) (by rw [hc4]; rfl) (by decide) ?_
      refine so_aload_n (pc := 56) hX dX10_leaf_56 1 rfl ?_
      refine so_iload_n (pc := 57) hX dX10_leaf_57 2 rfl ?_
      refine so_iload_n (pc := 58) hX dX10_leaf_58 3 rfl ?_
      obtain ⟨r6, μ5, hr, h⟩ := obd h
      refine so_callV (As := [.int v1, .int v2]) (rest := []) (pc := 59) hX dX10_leaf_59 (c_X10_widthOf hL hr) mw_X10_widthOf mv_X10_widthOf ml_X10_190 (ekM hL rfl) (by decide) rfl rfl rfl rfl (by omega) (by decide) (Nat.le_of_ble_eq_true rfl) ?_
      exact so_iretH (pc := 62) hX hR h rfl dX10_leaf_62
    · have h := iq hc4 h
      by_cases hc7 : v3 = (1 : Int32)
      · have h := ip hc7 h
        refine so_tabIn (off := 46) (pc := 17) hX 63 dX10_leaf_17 (by rw [hc7]; decide) (by rw [hc7]; decide) (by rw [hc7]; rfl) (by decide) ?_
        refine so_aload_n (pc := 63) hX dX10_leaf_63 1 rfl ?_
        refine so_iload_n (pc := 64) hX dX10_leaf_64 2 rfl ?_
        refine so_iload_n (pc := 65) hX dX10_leaf_65 3 rfl ?_
        obtain ⟨r9, μ8, hr, h⟩ := obd h
        refine so_callV (As := [.int v1, .int v2]) (rest := []) (pc := 66) hX dX10_leaf_66 (c_X10_toneOf hL hr) mw_X10_toneOf mv_X10_toneOf ml_X10_194 (ekM hL rfl) (by decide) rfl rfl rfl rfl (by omega) (by decide) (Nat.le_of_ble_eq_true rfl) ?_
        exact so_iretH (pc := 69) hX hR h rfl dX10_leaf_69
      · have h := iq hc7 h
        by_cases hc10 : v3 = (2 : Int32)
        · have h := ip hc10 h
          refine so_tabIn (off := 53) (pc := 17) hX 70 dX10_leaf_17 (by rw [hc10]; decide) (by rw [hc10]; decide) (by rw [hc10]; rfl) (by decide) ?_
          refine so_iconst (v := (0 : Int32)) (pc := 70) hX dX10_leaf_70 (by decide) ?_
          refine so_istore (pc := 71) hX dX10_leaf_71 [(5, .int (0 : Int32)), (4, .int (0 : Int32)), (0, .ref (evA (xV X) 0)), (1, .int v1), (2, .int v2), (3, .int v3)] (by rw [hn]; decide) rfl ?_
          refine so_sub (pc := 73) (lv' := [(0, .ref (evA (xV X) 0)), (1, .int v1), (2, .int v2), (4, .int (0 : Int32)), (5, .int (0 : Int32))]) [2, 3, 4, 1, 0] rfl ?_
          refine g_X10_leaf_L73 hX hL hn hR (fun w19 μ20 h => ?_) FU _ _ _ h
          refine so_iload (pc := 122) hX dX10_leaf_122 0 rfl ?_
          exact so_iretH (pc := 124) hX hR h rfl dX10_leaf_124
        · have h := iq hc10 h
          by_cases hc21 : v3 = (3 : Int32)
          · have h := ip hc21 h
            refine so_tabIn (off := 108) (pc := 17) hX 125 dX10_leaf_17 (by rw [hc21]; decide) (by rw [hc21]; decide) (by rw [hc21]; rfl) (by decide) ?_
            refine so_iconst (v := (0 : Int32)) (pc := 125) hX dX10_leaf_125 (by decide) ?_
            refine so_istore (pc := 126) hX dX10_leaf_126 [(5, .int (0 : Int32)), (4, .int (0 : Int32)), (0, .ref (evA (xV X) 0)), (1, .int v1), (2, .int v2), (3, .int v3)] (by rw [hn]; decide) rfl ?_
            refine so_sub (pc := 128) (lv' := [(0, .ref (evA (xV X) 0)), (1, .int v1), (2, .int v2), (4, .int (0 : Int32)), (5, .int (0 : Int32))]) [2, 3, 4, 1, 0] rfl ?_
            refine g_X10_leaf_L128 hX hL hn hR (fun w28 μ29 h => ?_) FU _ _ _ h
            refine so_iload (pc := 177) hX dX10_leaf_177 0 rfl ?_
            exact so_iretH (pc := 179) hX hR h rfl dX10_leaf_179
          · have h := iq hc21 h
            by_cases hc30 : v3 = (4 : Int32)
            · have h := ip hc30 h
              refine so_tabIn (off := 163) (pc := 17) hX 180 dX10_leaf_17 (by rw [hc30]; decide) (by rw [hc30]; decide) (by rw [hc30]; rfl) (by decide) ?_
              refine so_iload_n (pc := 180) hX dX10_leaf_180 3 rfl ?_
              refine so_if_ne (pc := 181) hX 193 dX10_leaf_181 (by decide) (fun hc31 => ?_) (fun hc31 => ?_)
              · have h := iq hc31 h
                refine so_sipush (v := (-1000 : Int32)) (pc := 193) hX dX10_leaf_193 (by decide) ?_
                exact so_iretH (pc := 196) hX hR h rfl dX10_leaf_196
              · have h := ip hc31 h
                refine so_aload_n (pc := 184) hX dX10_leaf_184 1 rfl ?_
                refine so_gR (pc := 185) hX 1 dX10_leaf_185 fl_X10_7 (ekM hL rfl) (erM hL rfl) ?_
                refine so_iload_n (pc := 188) hX dX10_leaf_188 2 rfl ?_
                obtain ⟨e32, hr, h⟩ := ob h
                refine so_iald (pc := 189) hX dX10_leaf_189 (ekM hL rfl) (elM hL rfl) hr ?_
                refine so_goto (pc := 190) hX 196 dX10_leaf_190 (by decide) ?_
                exact so_iretH (pc := 196) hX hR h rfl dX10_leaf_196
            · have h := iq hc30 h
              by_cases hc33 : v3 = (5 : Int32)
              · have h := ip hc33 h
                refine so_tabIn (off := 180) (pc := 17) hX 197 dX10_leaf_17 (by rw [hc33]; decide) (by rw [hc33]; decide) (by rw [hc33]; rfl) (by decide) ?_
                refine so_iload_n (pc := 197) hX dX10_leaf_197 3 rfl ?_
                refine so_if_ne (pc := 198) hX 210 dX10_leaf_198 (by decide) (fun hc34 => ?_) (fun hc34 => ?_)
                · have h := iq hc34 h
                  refine so_sipush (v := (-1000 : Int32)) (pc := 210) hX dX10_leaf_210 (by decide) ?_
                  exact so_iretH (pc := 213) hX hR h rfl dX10_leaf_213
                · have h := ip hc34 h
                  refine so_aload_n (pc := 201) hX dX10_leaf_201 1 rfl ?_
                  refine so_gR (pc := 202) hX 2 dX10_leaf_202 fl_X10_13 (ekM hL rfl) (erM hL rfl) ?_
                  refine so_iload_n (pc := 205) hX dX10_leaf_205 2 rfl ?_
                  obtain ⟨e35, hr, h⟩ := ob h
                  refine so_iald (pc := 206) hX dX10_leaf_206 (ekM hL rfl) (elM hL rfl) hr ?_
                  refine so_goto (pc := 207) hX 213 dX10_leaf_207 (by decide) ?_
                  exact so_iretH (pc := 213) hX hR h rfl dX10_leaf_213
              · have h := iq hc33 h
                refine so_tabOut (pc := 17) hX 214 dX10_leaf_17 (tabO6 hc4 hc7 hc10 hc21 hc30 hc33) (by decide) ?_
                refine so_sipush (v := (-1000 : Int32)) (pc := 214) hX dX10_leaf_214 (by decide) ?_
                exact so_iretH (pc := 217) hX hR h rfl dX10_leaf_217
  · have h := ip hc3 h
    refine so_sipush (v := (-1000 : Int32)) (pc := 9) hX dX10_leaf_9 (by decide) ?_
    exact so_iretH (pc := 12) hX hR h rfl dX10_leaf_12
set_option maxHeartbeats 4000000 in
set_option maxRecDepth 100000 in
theorem g_X10_flawIn_L3 {X : Cx} (hX : Fx X cX10_flawIn RX10 2) (hL : (xV X).2.2.2 = lyM) (hn : xn X = 8) {rZ : Int32} {μZ : Mem} (hR : Rt X (some .int) μZ (some (.int rZ))) {v1 : Int32} {v2 : Int32} {v3 : Int32} {v4 : Int32} {v5 : Int32} {v6 : Int32}  {K : Mem → Option (Int32 × Mem)} (hK : ∀  (μ : Mem), K μ = some (rZ, μZ) → Gd X 45 [] [] μ) : ∀ (n : Nat) (v7 : Int32) (μ : Mem), f_X10_flawIn_L3 v1 v2 v3 v4 v5 v6 K n v7 μ = some (rZ, μZ) → Gd X 3 [(0, .ref (evA (xV X) 0)), (1, .int v1), (2, .int v2), (3, .int v3), (4, .int v4), (5, .int v5), (6, .int v6), (7, .int v7)] [] μ := by
  intro n
  induction n with
  | zero => intro _ _ h; rw [f_X10_flawIn_L3] at h; cases h
  | succ n ih =>
    intro v7 μ h
    rw [f_X10_flawIn_L3] at h
    refine so_iload (pc := 3) hX dX10_flawIn_3 7 rfl ?_
    refine so_aload_n (pc := 5) hX dX10_flawIn_5 0 rfl ?_
    refine so_gR (pc := 6) hX 7 dX10_flawIn_6 fl_X10_28 (ekM hL rfl) (erM hL rfl) ?_
    refine so_iload_n (pc := 9) hX dX10_flawIn_9 1 rfl ?_
    obtain ⟨e1, hr, h⟩ := ob h
    refine so_iald (pc := 10) hX dX10_flawIn_10 (ekM hL rfl) (elM hL rfl) hr ?_
    refine so_icmp_ge (pc := 11) hX 45 dX10_flawIn_11 (by decide) (fun hc2 => ?_) (fun hc2 => ?_)
    · have h := ip hc2 h
      refine so_sub (pc := 45) (lv' := []) [] rfl ?_
      exact hK _ h
    · have h := iq hc2 h
      refine so_aload_n (pc := 14) hX dX10_flawIn_14 0 rfl ?_
      refine so_bipush (v := (10 : Int32)) (pc := 15) hX dX10_flawIn_15 (by decide) ?_
      refine so_iload_n (pc := 17) hX dX10_flawIn_17 1 rfl ?_
      refine so_imul (pc := 18) hX dX10_flawIn_18 ?_
      refine so_iload (pc := 19) hX dX10_flawIn_19 7 rfl ?_
      refine so_iadd (pc := 21) hX dX10_flawIn_21 ?_
      refine so_iload_n (pc := 22) hX dX10_flawIn_22 2 rfl ?_
      refine so_iload_n (pc := 23) hX dX10_flawIn_23 3 rfl ?_
      refine so_iload (pc := 24) hX dX10_flawIn_24 4 rfl ?_
      refine so_iload (pc := 26) hX dX10_flawIn_26 5 rfl ?_
      refine so_iload (pc := 28) hX dX10_flawIn_28 6 rfl ?_
      obtain ⟨r4, μ3, hr, h⟩ := obd h
      refine so_callV (As := [.int (((10 : Int32) * v1) + v7), .int v2, .int v3, .int v4, .int v5, .int v6]) (rest := []) (pc := 30) hX dX10_flawIn_30 (c_X10_isFlawed hL hr) mw_X10_isFlawed mv_X10_isFlawed ml_X10_197 (ekM hL rfl) (by decide) rfl rfl rfl rfl (by omega) (by decide) (Nat.le_of_ble_eq_true rfl) ?_
      refine so_if_eq (pc := 33) hX 39 dX10_flawIn_33 (by decide) (fun hc5 => ?_) (fun hc5 => ?_)
      · have h := ip hc5 h
        refine so_iinc (pc := 39) hX dX10_flawIn_39 7 (1 : Int32) [(7, .int (v7 + (1 : Int32))), (0, .ref (evA (xV X) 0)), (1, .int v1), (2, .int v2), (3, .int v3), (4, .int v4), (5, .int v5), (6, .int v6)] rfl (by decide) (by rw [hn]; decide) rfl ?_
        refine so_goto (pc := 42) hX 3 dX10_flawIn_42 (by decide) ?_
        refine so_sub (pc := 3) (lv' := [(0, .ref (evA (xV X) 0)), (1, .int v1), (2, .int v2), (3, .int v3), (4, .int v4), (5, .int v5), (6, .int v6), (7, .int (v7 + (1 : Int32)))]) [1, 2, 3, 4, 5, 6, 7, 0] rfl ?_
        exact ih _ _ h
      · have h := iq hc5 h
        refine so_iload (pc := 36) hX dX10_flawIn_36 7 rfl ?_
        exact so_iretH (pc := 38) hX hR h rfl dX10_flawIn_38
set_option maxHeartbeats 4000000 in
set_option maxRecDepth 100000 in
theorem c_X10_flawIn {l : Launch} {V : Ev} (hL : V.2.2.2 = lyM) {v1 : Int32} {v2 : Int32} {v3 : Int32} {v4 : Int32} {v5 : Int32} {v6 : Int32}  {μ : Mem} {rZ : Int32} {μZ : Mem} (h : f_X10_flawIn v1 v2 v3 v4 v5 v6 μ = some (rZ, μZ)) : CT l V yX10_flawIn cX10_flawIn 8 (some .int) 2 [.ref (evA V 0), .int v1, .int v2, .int v3, .int v4, .int v5, .int v6] μ μZ (some (.int rZ)) := by
  refine so_met [(0, .ref (evA V 0)), (1, .int v1), (2, .int v2), (3, .int v3), (4, .int v4), (5, .int v5), (6, .int v6)] (by decide) (Nat.le_of_ble_eq_true rfl) (evMn hL) rfl ?_
  intro X hl hV hn hX hR
  subst hl hV
  unfold f_X10_flawIn at h
  refine so_iconst (v := (0 : Int32)) (pc := 0) hX dX10_flawIn_0 (by decide) ?_
  refine so_istore (pc := 1) hX dX10_flawIn_1 [(7, .int (0 : Int32)), (0, .ref (evA (xV X) 0)), (1, .int v1), (2, .int v2), (3, .int v3), (4, .int v4), (5, .int v5), (6, .int v6)] (by rw [hn]; decide) rfl ?_
  refine so_sub (pc := 3) (lv' := [(0, .ref (evA (xV X) 0)), (1, .int v1), (2, .int v2), (3, .int v3), (4, .int v4), (5, .int v5), (6, .int v6), (7, .int (0 : Int32))]) [1, 2, 3, 4, 5, 6, 7, 0] rfl ?_
  refine g_X10_flawIn_L3 hX hL hn hR (fun μ6 h => ?_) FU _ _ h
  refine so_iconst (v := (-1 : Int32)) (pc := 45) hX dX10_flawIn_45 (by decide) ?_
  exact so_iretH (pc := 46) hX hR h rfl dX10_flawIn_46
set_option maxHeartbeats 4000000 in
set_option maxRecDepth 100000 in
theorem g_X10_isCut_L3 {X : Cx} (hX : Fx X cX10_isCut RX10 1) (hL : (xV X).2.2.2 = lyM) (hn : xn X = 8) {rZ : Int32} {μZ : Mem} (hR : Rt X (some .boolean) μZ (some (.int rZ))) {v1 : Int32} {v2 : Int32} {v3 : Int32} {v4 : Int32} {v5 : Int32} {v6 : Int32}  {K : Mem → Option (Int32 × Mem)} (hK : ∀  (μ : Mem), K μ = some (rZ, μZ) → Gd X 83 [] [] μ) : ∀ (n : Nat) (v7 : Int32) (μ : Mem), f_X10_isCut_L3 v1 v2 v3 v4 v5 v6 K n v7 μ = some (rZ, μZ) → Gd X 3 [(0, .ref (evA (xV X) 0)), (1, .int v1), (2, .int v2), (3, .int v3), (4, .int v4), (5, .int v5), (6, .int v6), (7, .int v7)] [] μ := by
  intro n
  induction n with
  | zero => intro _ _ h; rw [f_X10_isCut_L3] at h; cases h
  | succ n ih =>
    intro v7 μ h
    rw [f_X10_isCut_L3] at h
    refine so_iload (pc := 3) hX dX10_isCut_3 7 rfl ?_
    refine so_aload_n (pc := 5) hX dX10_isCut_5 0 rfl ?_
    refine so_gI (pc := 6) hX dX10_isCut_6 fl_X10_171 (ekM hL rfl) ?_
    refine so_icmp_ge (pc := 9) hX 83 dX10_isCut_9 (by decide) (fun hc1 => ?_) (fun hc1 => ?_)
    · have h := ip hc1 h
      refine so_sub (pc := 83) (lv' := []) [] rfl ?_
      exact hK _ h
    · have h := iq hc1 h
      refine so_aload_n (pc := 12) hX dX10_isCut_12 0 rfl ?_
      refine so_gR (pc := 13) hX 16 dX10_isCut_13 fl_X10_55 (ekM hL rfl) (erM hL rfl) ?_
      refine so_iload (pc := 16) hX dX10_isCut_16 7 rfl ?_
      obtain ⟨e2, hr, h⟩ := ob h
      refine so_iald (pc := 18) hX dX10_isCut_18 (ekM hL rfl) (elM hL rfl) hr ?_
      refine so_iload_n (pc := 19) hX dX10_isCut_19 1 rfl ?_
      refine so_icmp_ne (pc := 20) hX 77 dX10_isCut_20 (by decide) (fun hc3 => ?_) (fun hc3 => ?_)
      · have h := iq hc3 h
        refine so_iinc (pc := 77) hX dX10_isCut_77 7 (1 : Int32) [(7, .int (v7 + (1 : Int32))), (0, .ref (evA (xV X) 0)), (1, .int v1), (2, .int v2), (3, .int v3), (4, .int v4), (5, .int v5), (6, .int v6)] rfl (by decide) (by rw [hn]; decide) rfl ?_
        refine so_goto (pc := 80) hX 3 dX10_isCut_80 (by decide) ?_
        refine so_sub (pc := 3) (lv' := [(0, .ref (evA (xV X) 0)), (1, .int v1), (2, .int v2), (3, .int v3), (4, .int v4), (5, .int v5), (6, .int v6), (7, .int (v7 + (1 : Int32)))]) [1, 2, 3, 4, 5, 6, 7, 0] rfl ?_
        exact ih _ _ h
      · have h := ip hc3 h
        refine so_aload_n (pc := 23) hX dX10_isCut_23 0 rfl ?_
        refine so_gR (pc := 24) hX 17 dX10_isCut_24 fl_X10_58 (ekM hL rfl) (erM hL rfl) ?_
        refine so_iload (pc := 27) hX dX10_isCut_27 7 rfl ?_
        obtain ⟨e4, hr, h⟩ := ob h
        refine so_iald (pc := 29) hX dX10_isCut_29 (ekM hL rfl) (elM hL rfl) hr ?_
        refine so_iload_n (pc := 30) hX dX10_isCut_30 2 rfl ?_
        refine so_icmp_ne (pc := 31) hX 77 dX10_isCut_31 (by decide) (fun hc5 => ?_) (fun hc5 => ?_)
        · have h := iq hc5 h
          refine so_iinc (pc := 77) hX dX10_isCut_77 7 (1 : Int32) [(7, .int (v7 + (1 : Int32))), (0, .ref (evA (xV X) 0)), (1, .int v1), (2, .int v2), (3, .int v3), (4, .int v4), (5, .int v5), (6, .int v6)] rfl (by decide) (by rw [hn]; decide) rfl ?_
          refine so_goto (pc := 80) hX 3 dX10_isCut_80 (by decide) ?_
          refine so_sub (pc := 3) (lv' := [(0, .ref (evA (xV X) 0)), (1, .int v1), (2, .int v2), (3, .int v3), (4, .int v4), (5, .int v5), (6, .int v6), (7, .int (v7 + (1 : Int32)))]) [1, 2, 3, 4, 5, 6, 7, 0] rfl ?_
          exact ih _ _ h
        · have h := ip hc5 h
          refine so_aload_n (pc := 34) hX dX10_isCut_34 0 rfl ?_
          refine so_gR (pc := 35) hX 18 dX10_isCut_35 fl_X10_61 (ekM hL rfl) (erM hL rfl) ?_
          refine so_iload (pc := 38) hX dX10_isCut_38 7 rfl ?_
          obtain ⟨e6, hr, h⟩ := ob h
          refine so_iald (pc := 40) hX dX10_isCut_40 (ekM hL rfl) (elM hL rfl) hr ?_
          refine so_aload_n (pc := 41) hX dX10_isCut_41 0 rfl ?_
          refine so_gR (pc := 42) hX 19 dX10_isCut_42 fl_X10_64 (ekM hL rfl) (erM hL rfl) ?_
          refine so_iload (pc := 45) hX dX10_isCut_45 7 rfl ?_
          obtain ⟨e7, hr, h⟩ := ob h
          refine so_iald (pc := 47) hX dX10_isCut_47 (ekM hL rfl) (elM hL rfl) hr ?_
          refine so_aload_n (pc := 48) hX dX10_isCut_48 0 rfl ?_
          refine so_gR (pc := 49) hX 20 dX10_isCut_49 fl_X10_67 (ekM hL rfl) (erM hL rfl) ?_
          refine so_iload (pc := 52) hX dX10_isCut_52 7 rfl ?_
          obtain ⟨e8, hr, h⟩ := ob h
          refine so_iald (pc := 54) hX dX10_isCut_54 (ekM hL rfl) (elM hL rfl) hr ?_
          refine so_aload_n (pc := 55) hX dX10_isCut_55 0 rfl ?_
          refine so_gR (pc := 56) hX 21 dX10_isCut_56 fl_X10_70 (ekM hL rfl) (erM hL rfl) ?_
          refine so_iload (pc := 59) hX dX10_isCut_59 7 rfl ?_
          obtain ⟨e9, hr, h⟩ := ob h
          refine so_iald (pc := 61) hX dX10_isCut_61 (ekM hL rfl) (elM hL rfl) hr ?_
          refine so_iload_n (pc := 62) hX dX10_isCut_62 3 rfl ?_
          refine so_iload (pc := 63) hX dX10_isCut_63 4 rfl ?_
          refine so_iload (pc := 65) hX dX10_isCut_65 5 rfl ?_
          refine so_iload (pc := 67) hX dX10_isCut_67 6 rfl ?_
          obtain ⟨r11, μ10, hr, h⟩ := obd h
          refine so_callS (As := [.int e6, .int e7, .int e8, .int e9, .int v3, .int v4, .int v5, .int v6]) (rest := []) (pc := 69) hX dX10_isCut_69 (c_X10_laps hL hr) mw_X10_laps ms_X10_laps ml_X10_186 rfl rfl (by omega) (by decide) (Nat.le_of_ble_eq_true rfl) ?_
          refine so_if_eq (pc := 72) hX 77 dX10_isCut_72 (by decide) (fun hc12 => ?_) (fun hc12 => ?_)
          · have h := ip hc12 h
            refine so_iinc (pc := 77) hX dX10_isCut_77 7 (1 : Int32) [(7, .int (v7 + (1 : Int32))), (0, .ref (evA (xV X) 0)), (1, .int v1), (2, .int v2), (3, .int v3), (4, .int v4), (5, .int v5), (6, .int v6)] rfl (by decide) (by rw [hn]; decide) rfl ?_
            refine so_goto (pc := 80) hX 3 dX10_isCut_80 (by decide) ?_
            refine so_sub (pc := 3) (lv' := [(0, .ref (evA (xV X) 0)), (1, .int v1), (2, .int v2), (3, .int v3), (4, .int v4), (5, .int v5), (6, .int v6), (7, .int (v7 + (1 : Int32)))]) [1, 2, 3, 4, 5, 6, 7, 0] rfl ?_
            exact ih _ _ h
          · have h := iq hc12 h
            refine so_iconst (v := (1 : Int32)) (pc := 75) hX dX10_isCut_75 (by decide) ?_
            exact so_iretH (pc := 76) hX hR h (by decide) dX10_isCut_76
set_option maxHeartbeats 4000000 in
set_option maxRecDepth 100000 in
theorem c_X10_isCut {l : Launch} {V : Ev} (hL : V.2.2.2 = lyM) {v1 : Int32} {v2 : Int32} {v3 : Int32} {v4 : Int32} {v5 : Int32} {v6 : Int32}  {μ : Mem} {rZ : Int32} {μZ : Mem} (h : f_X10_isCut v1 v2 v3 v4 v5 v6 μ = some (rZ, μZ)) : CT l V yX10_isCut cX10_isCut 8 (some .boolean) 1 [.ref (evA V 0), .int v1, .int v2, .int v3, .int v4, .int v5, .int v6] μ μZ (some (.int rZ)) := by
  refine so_met [(0, .ref (evA V 0)), (1, .int v1), (2, .int v2), (3, .int v3), (4, .int v4), (5, .int v5), (6, .int v6)] (by decide) (Nat.le_of_ble_eq_true rfl) (evMn hL) rfl ?_
  intro X hl hV hn hX hR
  subst hl hV
  unfold f_X10_isCut at h
  refine so_iconst (v := (0 : Int32)) (pc := 0) hX dX10_isCut_0 (by decide) ?_
  refine so_istore (pc := 1) hX dX10_isCut_1 [(7, .int (0 : Int32)), (0, .ref (evA (xV X) 0)), (1, .int v1), (2, .int v2), (3, .int v3), (4, .int v4), (5, .int v5), (6, .int v6)] (by rw [hn]; decide) rfl ?_
  refine so_sub (pc := 3) (lv' := [(0, .ref (evA (xV X) 0)), (1, .int v1), (2, .int v2), (3, .int v3), (4, .int v4), (5, .int v5), (6, .int v6), (7, .int (0 : Int32))]) [1, 2, 3, 4, 5, 6, 7, 0] rfl ?_
  refine g_X10_isCut_L3 hX hL hn hR (fun μ13 h => ?_) FU _ _ h
  refine so_iconst (v := (0 : Int32)) (pc := 83) hX dX10_isCut_83 (by decide) ?_
  exact so_iretH (pc := 84) hX hR h (by decide) dX10_isCut_84
set_option maxHeartbeats 4000000 in
set_option maxRecDepth 100000 in
theorem c_X10_isWithin {l : Launch} {V : Ev} (hL : V.2.2.2 = lyM) {v1 : Int32} {v2 : Int32} {v3 : Int64} {v5 : Int64} {v7 : Int32} {v8 : Int32}  {μ : Mem} {rZ : Int32} {μZ : Mem} (h : f_X10_isWithin v1 v2 v3 v5 v7 v8 μ = some (rZ, μZ)) : CT l V yX10_isWithin cX10_isWithin 9 (some .boolean) 1 [.ref (evA V 0), .int v1, .int v2, .long v3, .long v5, .int v7, .int v8] μ μZ (some (.int rZ)) := by
  refine so_met [(0, .ref (evA V 0)), (1, .int v1), (2, .int v2), (3, .long v3), (5, .long v5), (7, .int v7), (8, .int v8)] (by decide) (Nat.le_of_ble_eq_true rfl) (evMn hL) rfl ?_
  intro X hl hV hn hX hR
  subst hl hV
  unfold f_X10_isWithin at h
  refine so_lload_n (pc := 0) hX dX10_isWithin_0 3 rfl ?_
  refine so_lconst (v := (0 : Int64)) (pc := 1) hX dX10_isWithin_1 (by decide) ?_
  refine so_lcmp (pc := 2) hX dX10_isWithin_2 ?_
  refine so_if_lt (pc := 3) hX 50 dX10_isWithin_3 (by decide) (fun hc1 => ?_) (fun hc1 => ?_)
  · have h := ip hc1 h
    refine so_iconst (v := (0 : Int32)) (pc := 50) hX dX10_isWithin_50 (by decide) ?_
    exact so_iretH (pc := 51) hX hR h (by decide) dX10_isWithin_51
  · have h := iq hc1 h
    refine so_lload (pc := 6) hX dX10_isWithin_6 4 rfl ?_
    refine so_lconst (v := (0 : Int64)) (pc := 8) hX dX10_isWithin_8 (by decide) ?_
    refine so_lcmp (pc := 9) hX dX10_isWithin_9 ?_
    refine so_if_lt (pc := 10) hX 50 dX10_isWithin_10 (by decide) (fun hc2 => ?_) (fun hc2 => ?_)
    · have h := ip hc2 h
      refine so_iconst (v := (0 : Int32)) (pc := 50) hX dX10_isWithin_50 (by decide) ?_
      exact so_iretH (pc := 51) hX hR h (by decide) dX10_isWithin_51
    · have h := iq hc2 h
      refine so_lload_n (pc := 13) hX dX10_isWithin_13 3 rfl ?_
      refine so_iload (pc := 14) hX dX10_isWithin_14 5 rfl ?_
      refine so_i2l (pc := 16) hX dX10_isWithin_16 ?_
      refine so_ladd (pc := 17) hX dX10_isWithin_17 ?_
      refine so_aload_n (pc := 18) hX dX10_isWithin_18 0 rfl ?_
      refine so_iload_n (pc := 19) hX dX10_isWithin_19 1 rfl ?_
      refine so_iload_n (pc := 20) hX dX10_isWithin_20 2 rfl ?_
      obtain ⟨r4, μ3, hr, h⟩ := obd h
      refine so_callV (As := [.int v1, .int v2]) (rest := [.long (v3 + (Int32.toInt64 v7))]) (pc := 21) hX dX10_isWithin_21 (c_X10_widthOf hL hr) mw_X10_widthOf mv_X10_widthOf ml_X10_190 (ekM hL rfl) (by decide) rfl rfl rfl rfl (by omega) (by decide) (Nat.le_of_ble_eq_true rfl) ?_
      refine so_i2l (pc := 24) hX dX10_isWithin_24 ?_
      refine so_lcmp (pc := 25) hX dX10_isWithin_25 ?_
      refine so_if_gt (pc := 26) hX 50 dX10_isWithin_26 (by decide) (fun hc5 => ?_) (fun hc5 => ?_)
      · have h := ip hc5 h
        refine so_iconst (v := (0 : Int32)) (pc := 50) hX dX10_isWithin_50 (by decide) ?_
        exact so_iretH (pc := 51) hX hR h (by decide) dX10_isWithin_51
      · have h := iq hc5 h
        refine so_lload (pc := 29) hX dX10_isWithin_29 4 rfl ?_
        refine so_iload (pc := 31) hX dX10_isWithin_31 6 rfl ?_
        refine so_i2l (pc := 33) hX dX10_isWithin_33 ?_
        refine so_ladd (pc := 34) hX dX10_isWithin_34 ?_
        refine so_aload_n (pc := 35) hX dX10_isWithin_35 0 rfl ?_
        refine so_gR (pc := 36) hX 2 dX10_isWithin_36 fl_X10_13 (ekM hL rfl) (erM hL rfl) ?_
        refine so_iload_n (pc := 39) hX dX10_isWithin_39 1 rfl ?_
        obtain ⟨e6, hr, h⟩ := ob h
        refine so_iald (pc := 40) hX dX10_isWithin_40 (ekM hL rfl) (elM hL rfl) hr ?_
        refine so_i2l (pc := 41) hX dX10_isWithin_41 ?_
        refine so_lcmp (pc := 42) hX dX10_isWithin_42 ?_
        refine so_if_gt (pc := 43) hX 50 dX10_isWithin_43 (by decide) (fun hc7 => ?_) (fun hc7 => ?_)
        · have h := ip hc7 h
          refine so_iconst (v := (0 : Int32)) (pc := 50) hX dX10_isWithin_50 (by decide) ?_
          exact so_iretH (pc := 51) hX hR h (by decide) dX10_isWithin_51
        · have h := iq hc7 h
          refine so_iconst (v := (1 : Int32)) (pc := 46) hX dX10_isWithin_46 (by decide) ?_
          refine so_goto (pc := 47) hX 51 dX10_isWithin_47 (by decide) ?_
          exact so_iretH (pc := 51) hX hR h (by decide) dX10_isWithin_51
set_option maxHeartbeats 4000000 in
set_option maxRecDepth 100000 in
theorem c_X10_hit {l : Launch} {V : Ev} (hL : V.2.2.2 = lyM) {v1 : Int32} {v2 : Int32} {v3 : Int32} {v4 : Int32} {v5 : Int32} {v6 : Int32}  {μ : Mem} {rZ : Int32} {μZ : Mem} (h : f_X10_hit v1 v2 v3 v4 v5 v6 μ = some (rZ, μZ)) : CT l V yX10_hit cX10_hit 7 (some .int) 3 [.ref (evA V 0), .int v1, .int v2, .int v3, .int v4, .int v5, .int v6] μ μZ (some (.int rZ)) := by
  refine so_met [(0, .ref (evA V 0)), (1, .int v1), (2, .int v2), (3, .int v3), (4, .int v4), (5, .int v5), (6, .int v6)] (by decide) (Nat.le_of_ble_eq_true rfl) (evMn hL) rfl ?_
  intro X hl hV hn hX hR
  subst hl hV
  unfold f_X10_hit at h
  refine so_aload_n (pc := 0) hX dX10_hit_0 0 rfl ?_
  refine so_iload_n (pc := 1) hX dX10_hit_1 1 rfl ?_
  refine so_iload_n (pc := 2) hX dX10_hit_2 2 rfl ?_
  obtain ⟨r2, μ1, hr, h⟩ := obd h
  refine so_callV (As := [.int v1, .int v2]) (rest := []) (pc := 3) hX dX10_hit_3 (c_X10_isLeaf hL hr) mw_X10_isLeaf mv_X10_isLeaf ml_X10_182 (ekM hL rfl) (by decide) rfl rfl rfl rfl (by omega) (by decide) (Nat.le_of_ble_eq_true rfl) ?_
  refine so_if_eq (pc := 6) hX 31 dX10_hit_6 (by decide) (fun hc3 => ?_) (fun hc3 => ?_)
  · have h := ip hc3 h
    refine so_bipush (v := (-2 : Int32)) (pc := 31) hX dX10_hit_31 (by decide) ?_
    exact so_iretH (pc := 33) hX hR h rfl dX10_hit_33
  · have h := iq hc3 h
    refine so_iload (pc := 9) hX dX10_hit_9 5 rfl ?_
    refine so_iconst (v := (1 : Int32)) (pc := 11) hX dX10_hit_11 (by decide) ?_
    refine so_bipush (v := (100 : Int32)) (pc := 12) hX dX10_hit_12 (by decide) ?_
    obtain ⟨r5, μ4, hr, h⟩ := obd h
    refine so_callS (As := [.int v5, .int (1 : Int32), .int (100 : Int32)]) (rest := []) (pc := 14) hX dX10_hit_14 (c_X10_isIn hL hr) mw_X10_isIn ms_X10_isIn ml_X10_174 rfl rfl (by omega) (by decide) (Nat.le_of_ble_eq_true rfl) ?_
    refine so_if_eq (pc := 17) hX 31 dX10_hit_17 (by decide) (fun hc6 => ?_) (fun hc6 => ?_)
    · have h := ip hc6 h
      refine so_bipush (v := (-2 : Int32)) (pc := 31) hX dX10_hit_31 (by decide) ?_
      exact so_iretH (pc := 33) hX hR h rfl dX10_hit_33
    · have h := iq hc6 h
      refine so_iload (pc := 20) hX dX10_hit_20 6 rfl ?_
      refine so_iconst (v := (1 : Int32)) (pc := 22) hX dX10_hit_22 (by decide) ?_
      refine so_bipush (v := (100 : Int32)) (pc := 23) hX dX10_hit_23 (by decide) ?_
      obtain ⟨r8, μ7, hr, h⟩ := obd h
      refine so_callS (As := [.int v6, .int (1 : Int32), .int (100 : Int32)]) (rest := []) (pc := 25) hX dX10_hit_25 (c_X10_isIn hL hr) mw_X10_isIn ms_X10_isIn ml_X10_174 rfl rfl (by omega) (by decide) (Nat.le_of_ble_eq_true rfl) ?_
      refine so_if_ne (pc := 28) hX 34 dX10_hit_28 (by decide) (fun hc9 => ?_) (fun hc9 => ?_)
      · have h := iq hc9 h
        refine so_aload_n (pc := 34) hX dX10_hit_34 0 rfl ?_
        refine so_iload_n (pc := 35) hX dX10_hit_35 1 rfl ?_
        refine so_iload_n (pc := 36) hX dX10_hit_36 2 rfl ?_
        refine so_iload_n (pc := 37) hX dX10_hit_37 3 rfl ?_
        refine so_i2l (pc := 38) hX dX10_hit_38 ?_
        refine so_iload (pc := 39) hX dX10_hit_39 4 rfl ?_
        refine so_i2l (pc := 41) hX dX10_hit_41 ?_
        refine so_iload (pc := 42) hX dX10_hit_42 5 rfl ?_
        refine so_iload (pc := 44) hX dX10_hit_44 6 rfl ?_
        obtain ⟨r11, μ10, hr, h⟩ := obd h
        refine so_callV (As := [.int v1, .int v2, .long (Int32.toInt64 v3), .long (Int32.toInt64 v4), .int v5, .int v6]) (rest := []) (pc := 46) hX dX10_hit_46 (c_X10_isWithin hL hr) mw_X10_isWithin mv_X10_isWithin ml_X10_201 (ekM hL rfl) (by decide) rfl rfl rfl rfl (by omega) (by decide) (Nat.le_of_ble_eq_true rfl) ?_
        refine so_if_eq (pc := 49) hX 68 dX10_hit_49 (by decide) (fun hc12 => ?_) (fun hc12 => ?_)
        · have h := ip hc12 h
          refine so_bipush (v := (-3 : Int32)) (pc := 68) hX dX10_hit_68 (by decide) ?_
          exact so_iretH (pc := 70) hX hR h rfl dX10_hit_70
        · have h := iq hc12 h
          refine so_aload_n (pc := 52) hX dX10_hit_52 0 rfl ?_
          refine so_iload_n (pc := 53) hX dX10_hit_53 1 rfl ?_
          refine so_iload_n (pc := 54) hX dX10_hit_54 2 rfl ?_
          refine so_iload_n (pc := 55) hX dX10_hit_55 3 rfl ?_
          refine so_iload (pc := 56) hX dX10_hit_56 4 rfl ?_
          refine so_iload (pc := 58) hX dX10_hit_58 5 rfl ?_
          refine so_iload (pc := 60) hX dX10_hit_60 6 rfl ?_
          obtain ⟨r14, μ13, hr, h⟩ := obd h
          refine so_callV (As := [.int v1, .int v2, .int v3, .int v4, .int v5, .int v6]) (rest := []) (pc := 62) hX dX10_hit_62 (c_X10_flawIn hL hr) mw_X10_flawIn mv_X10_flawIn ml_X10_205 (ekM hL rfl) (by decide) rfl rfl rfl rfl (by omega) (by decide) (Nat.le_of_ble_eq_true rfl) ?_
          refine so_goto (pc := 65) hX 70 dX10_hit_65 (by decide) ?_
          exact so_iretH (pc := 70) hX hR h rfl dX10_hit_70
      · have h := ip hc9 h
        refine so_bipush (v := (-2 : Int32)) (pc := 31) hX dX10_hit_31 (by decide) ?_
        exact so_iretH (pc := 33) hX hR h rfl dX10_hit_33
set_option maxHeartbeats 4000000 in
set_option maxRecDepth 100000 in
theorem g_X10_feed_L18 {X : Cx} (hX : Fx X cX10_feed RX10 0) (hL : (xV X).2.2.2 = lyM) (hn : xn X = 8) {rZ : Int32} {μZ : Mem} (hR : Rt X (some .int) μZ (some (.int rZ))) {v1 : Int32} {v2 : Int32} {v3 : Int32} {v4 : Int32} {v5 : Int32}  {K : Mem → Option (Int32 × Mem)} (hK : ∀  (μ : Mem), K μ = some (rZ, μZ) → Gd X 114 [(0, .ref (evA (xV X) 0))] [] μ) : ∀ (n : Nat) (v6 : Int32) (μ : Mem), f_X10_feed_L18 v1 v2 v3 v4 v5 K n v6 μ = some (rZ, μZ) → Gd X 18 [(0, .ref (evA (xV X) 0)), (1, .int v1), (2, .int v2), (3, .int v3), (4, .int v4), (5, .int v5), (6, .int v6)] [] μ := by
  intro n
  induction n with
  | zero => intro _ _ h; rw [f_X10_feed_L18] at h; cases h
  | succ n ih =>
    intro v6 μ h
    rw [f_X10_feed_L18] at h
    refine so_iload (pc := 18) hX dX10_feed_18 6 rfl ?_
    refine so_bipush (v := (20 : Int32)) (pc := 20) hX dX10_feed_20 (by decide) ?_
    refine so_icmp_ge (pc := 22) hX 114 dX10_feed_22 (by decide) (fun hc2 => ?_) (fun hc2 => ?_)
    · have h := ip hc2 h
      refine so_sub (pc := 114) (lv' := [(0, .ref (evA (xV X) 0))]) [0] rfl ?_
      exact hK _ h
    · have h := iq hc2 h
      refine so_iload (pc := 25) hX dX10_feed_25 6 rfl ?_
      refine so_iconst (v := (4 : Int32)) (pc := 27) hX dX10_feed_27 (by decide) ?_
      refine so_icmp_ge (pc := 28) hX 35 dX10_feed_28 (by decide) (fun hc3 => ?_) (fun hc3 => ?_)
      · have h := ip hc3 h
        refine so_iload (pc := 35) hX dX10_feed_35 6 rfl ?_
        refine so_bipush (v := (8 : Int32)) (pc := 37) hX dX10_feed_37 (by decide) ?_
        refine so_icmp_ge (pc := 39) hX 46 dX10_feed_39 (by decide) (fun hc4 => ?_) (fun hc4 => ?_)
        · have h := ip hc4 h
          refine so_iload (pc := 46) hX dX10_feed_46 6 rfl ?_
          refine so_bipush (v := (12 : Int32)) (pc := 48) hX dX10_feed_48 (by decide) ?_
          refine so_icmp_ge (pc := 50) hX 57 dX10_feed_50 (by decide) (fun hc5 => ?_) (fun hc5 => ?_)
          · have h := ip hc5 h
            refine so_iload (pc := 57) hX dX10_feed_57 6 rfl ?_
            refine so_bipush (v := (16 : Int32)) (pc := 59) hX dX10_feed_59 (by decide) ?_
            refine so_icmp_ge (pc := 61) hX 69 dX10_feed_61 (by decide) (fun hc6 => ?_) (fun hc6 => ?_)
            · have h := ip hc6 h
              refine so_iload (pc := 69) hX dX10_feed_69 5 rfl ?_
              refine so_istore (pc := 71) hX dX10_feed_71 [(7, .int v5), (0, .ref (evA (xV X) 0)), (1, .int v1), (2, .int v2), (3, .int v3), (4, .int v4), (5, .int v5), (6, .int v6)] (by rw [hn]; decide) rfl ?_
              refine so_aload_n (pc := 73) hX dX10_feed_73 1 rfl ?_
              refine so_gR (pc := 74) hX 24 dX10_feed_74 fl_X10_79 (ekM hL rfl) (erM hL rfl) ?_
              refine so_aload_n (pc := 77) hX dX10_feed_77 1 rfl ?_
              refine so_gI (pc := 78) hX dX10_feed_78 fl_X10_209 (ekM hL rfl) ?_
              refine so_iload (pc := 81) hX dX10_feed_81 0 rfl ?_
              refine so_bipush (v := (8 : Int32)) (pc := 83) hX dX10_feed_83 (by decide) ?_
              refine so_iconst (v := (3 : Int32)) (pc := 85) hX dX10_feed_85 (by decide) ?_
              refine so_iload (pc := 86) hX dX10_feed_86 7 rfl ?_
              refine so_iconst (v := (4 : Int32)) (pc := 88) hX dX10_feed_88 (by decide) ?_
              refine so_irem (pc := 89) hX dX10_feed_89 (by decide) ?_
              refine so_isub (pc := 90) hX dX10_feed_90 ?_
              refine so_imul (pc := 91) hX dX10_feed_91 ?_
              refine so_ishr (pc := 92) hX dX10_feed_92 ?_
              refine so_sipush (v := (255 : Int32)) (pc := 93) hX dX10_feed_93 (by decide) ?_
              refine so_iand (pc := 96) hX dX10_feed_96 ?_
              obtain ⟨μ7, hr, h⟩ := ob h
              refine so_iast (pc := 97) hX dX10_feed_97 (ekM hL rfl) (elM hL rfl) hr ?_
              refine so_aload_n (pc := 98) hX dX10_feed_98 1 rfl ?_
              refine so_dup (pc := 99) hX dX10_feed_99 rfl ?_
              refine so_gI (pc := 100) hX dX10_feed_100 fl_X10_209 (ekM hL rfl) ?_
              refine so_iconst (v := (1 : Int32)) (pc := 103) hX dX10_feed_103 (by decide) ?_
              refine so_iadd (pc := 104) hX dX10_feed_104 ?_
              refine so_pI (pc := 105) hX dX10_feed_105 fl_X10_209 fw_10_25 (ekM hL rfl) rfl rfl ?_
              refine so_iinc (pc := 108) hX dX10_feed_108 7 (1 : Int32) [(6, .int (v6 + (1 : Int32))), (7, .int v5), (0, .ref (evA (xV X) 0)), (1, .int v1), (2, .int v2), (3, .int v3), (4, .int v4), (5, .int v5)] rfl (by decide) (by rw [hn]; decide) rfl ?_
              refine so_goto (pc := 111) hX 18 dX10_feed_111 (by decide) ?_
              refine so_sub (pc := 18) (lv' := [(0, .ref (evA (xV X) 0)), (1, .int v1), (2, .int v2), (3, .int v3), (4, .int v4), (5, .int v5), (6, .int (v6 + (1 : Int32)))]) [2, 3, 4, 5, 6, 7, 0] rfl ?_
              exact ih _ _ h
            · have h := iq hc6 h
              refine so_iload (pc := 64) hX dX10_feed_64 4 rfl ?_
              refine so_goto (pc := 66) hX 71 dX10_feed_66 (by decide) ?_
              refine so_istore (pc := 71) hX dX10_feed_71 [(7, .int v4), (0, .ref (evA (xV X) 0)), (1, .int v1), (2, .int v2), (3, .int v3), (4, .int v4), (5, .int v5), (6, .int v6)] (by rw [hn]; decide) rfl ?_
              refine so_aload_n (pc := 73) hX dX10_feed_73 1 rfl ?_
              refine so_gR (pc := 74) hX 24 dX10_feed_74 fl_X10_79 (ekM hL rfl) (erM hL rfl) ?_
              refine so_aload_n (pc := 77) hX dX10_feed_77 1 rfl ?_
              refine so_gI (pc := 78) hX dX10_feed_78 fl_X10_209 (ekM hL rfl) ?_
              refine so_iload (pc := 81) hX dX10_feed_81 0 rfl ?_
              refine so_bipush (v := (8 : Int32)) (pc := 83) hX dX10_feed_83 (by decide) ?_
              refine so_iconst (v := (3 : Int32)) (pc := 85) hX dX10_feed_85 (by decide) ?_
              refine so_iload (pc := 86) hX dX10_feed_86 7 rfl ?_
              refine so_iconst (v := (4 : Int32)) (pc := 88) hX dX10_feed_88 (by decide) ?_
              refine so_irem (pc := 89) hX dX10_feed_89 (by decide) ?_
              refine so_isub (pc := 90) hX dX10_feed_90 ?_
              refine so_imul (pc := 91) hX dX10_feed_91 ?_
              refine so_ishr (pc := 92) hX dX10_feed_92 ?_
              refine so_sipush (v := (255 : Int32)) (pc := 93) hX dX10_feed_93 (by decide) ?_
              refine so_iand (pc := 96) hX dX10_feed_96 ?_
              obtain ⟨μ8, hr, h⟩ := ob h
              refine so_iast (pc := 97) hX dX10_feed_97 (ekM hL rfl) (elM hL rfl) hr ?_
              refine so_aload_n (pc := 98) hX dX10_feed_98 1 rfl ?_
              refine so_dup (pc := 99) hX dX10_feed_99 rfl ?_
              refine so_gI (pc := 100) hX dX10_feed_100 fl_X10_209 (ekM hL rfl) ?_
              refine so_iconst (v := (1 : Int32)) (pc := 103) hX dX10_feed_103 (by decide) ?_
              refine so_iadd (pc := 104) hX dX10_feed_104 ?_
              refine so_pI (pc := 105) hX dX10_feed_105 fl_X10_209 fw_10_25 (ekM hL rfl) rfl rfl ?_
              refine so_iinc (pc := 108) hX dX10_feed_108 7 (1 : Int32) [(6, .int (v6 + (1 : Int32))), (7, .int v4), (0, .ref (evA (xV X) 0)), (1, .int v1), (2, .int v2), (3, .int v3), (4, .int v4), (5, .int v5)] rfl (by decide) (by rw [hn]; decide) rfl ?_
              refine so_goto (pc := 111) hX 18 dX10_feed_111 (by decide) ?_
              refine so_sub (pc := 18) (lv' := [(0, .ref (evA (xV X) 0)), (1, .int v1), (2, .int v2), (3, .int v3), (4, .int v4), (5, .int v5), (6, .int (v6 + (1 : Int32)))]) [2, 3, 4, 5, 6, 7, 0] rfl ?_
              exact ih _ _ h
          · have h := iq hc5 h
            refine so_iload_n (pc := 53) hX dX10_feed_53 3 rfl ?_
            refine so_goto (pc := 54) hX 71 dX10_feed_54 (by decide) ?_
            refine so_istore (pc := 71) hX dX10_feed_71 [(7, .int v3), (0, .ref (evA (xV X) 0)), (1, .int v1), (2, .int v2), (3, .int v3), (4, .int v4), (5, .int v5), (6, .int v6)] (by rw [hn]; decide) rfl ?_
            refine so_aload_n (pc := 73) hX dX10_feed_73 1 rfl ?_
            refine so_gR (pc := 74) hX 24 dX10_feed_74 fl_X10_79 (ekM hL rfl) (erM hL rfl) ?_
            refine so_aload_n (pc := 77) hX dX10_feed_77 1 rfl ?_
            refine so_gI (pc := 78) hX dX10_feed_78 fl_X10_209 (ekM hL rfl) ?_
            refine so_iload (pc := 81) hX dX10_feed_81 0 rfl ?_
            refine so_bipush (v := (8 : Int32)) (pc := 83) hX dX10_feed_83 (by decide) ?_
            refine so_iconst (v := (3 : Int32)) (pc := 85) hX dX10_feed_85 (by decide) ?_
            refine so_iload (pc := 86) hX dX10_feed_86 7 rfl ?_
            refine so_iconst (v := (4 : Int32)) (pc := 88) hX dX10_feed_88 (by decide) ?_
            refine so_irem (pc := 89) hX dX10_feed_89 (by decide) ?_
            refine so_isub (pc := 90) hX dX10_feed_90 ?_
            refine so_imul (pc := 91) hX dX10_feed_91 ?_
            refine so_ishr (pc := 92) hX dX10_feed_92 ?_
            refine so_sipush (v := (255 : Int32)) (pc := 93) hX dX10_feed_93 (by decide) ?_
            refine so_iand (pc := 96) hX dX10_feed_96 ?_
            obtain ⟨μ9, hr, h⟩ := ob h
            refine so_iast (pc := 97) hX dX10_feed_97 (ekM hL rfl) (elM hL rfl) hr ?_
            refine so_aload_n (pc := 98) hX dX10_feed_98 1 rfl ?_
            refine so_dup (pc := 99) hX dX10_feed_99 rfl ?_
            refine so_gI (pc := 100) hX dX10_feed_100 fl_X10_209 (ekM hL rfl) ?_
            refine so_iconst (v := (1 : Int32)) (pc := 103) hX dX10_feed_103 (by decide) ?_
            refine so_iadd (pc := 104) hX dX10_feed_104 ?_
            refine so_pI (pc := 105) hX dX10_feed_105 fl_X10_209 fw_10_25 (ekM hL rfl) rfl rfl ?_
            refine so_iinc (pc := 108) hX dX10_feed_108 7 (1 : Int32) [(6, .int (v6 + (1 : Int32))), (7, .int v3), (0, .ref (evA (xV X) 0)), (1, .int v1), (2, .int v2), (3, .int v3), (4, .int v4), (5, .int v5)] rfl (by decide) (by rw [hn]; decide) rfl ?_
            refine so_goto (pc := 111) hX 18 dX10_feed_111 (by decide) ?_
            refine so_sub (pc := 18) (lv' := [(0, .ref (evA (xV X) 0)), (1, .int v1), (2, .int v2), (3, .int v3), (4, .int v4), (5, .int v5), (6, .int (v6 + (1 : Int32)))]) [2, 3, 4, 5, 6, 7, 0] rfl ?_
            exact ih _ _ h
        · have h := iq hc4 h
          refine so_iload_n (pc := 42) hX dX10_feed_42 2 rfl ?_
          refine so_goto (pc := 43) hX 71 dX10_feed_43 (by decide) ?_
          refine so_istore (pc := 71) hX dX10_feed_71 [(7, .int v2), (0, .ref (evA (xV X) 0)), (1, .int v1), (2, .int v2), (3, .int v3), (4, .int v4), (5, .int v5), (6, .int v6)] (by rw [hn]; decide) rfl ?_
          refine so_aload_n (pc := 73) hX dX10_feed_73 1 rfl ?_
          refine so_gR (pc := 74) hX 24 dX10_feed_74 fl_X10_79 (ekM hL rfl) (erM hL rfl) ?_
          refine so_aload_n (pc := 77) hX dX10_feed_77 1 rfl ?_
          refine so_gI (pc := 78) hX dX10_feed_78 fl_X10_209 (ekM hL rfl) ?_
          refine so_iload (pc := 81) hX dX10_feed_81 0 rfl ?_
          refine so_bipush (v := (8 : Int32)) (pc := 83) hX dX10_feed_83 (by decide) ?_
          refine so_iconst (v := (3 : Int32)) (pc := 85) hX dX10_feed_85 (by decide) ?_
          refine so_iload (pc := 86) hX dX10_feed_86 7 rfl ?_
          refine so_iconst (v := (4 : Int32)) (pc := 88) hX dX10_feed_88 (by decide) ?_
          refine so_irem (pc := 89) hX dX10_feed_89 (by decide) ?_
          refine so_isub (pc := 90) hX dX10_feed_90 ?_
          refine so_imul (pc := 91) hX dX10_feed_91 ?_
          refine so_ishr (pc := 92) hX dX10_feed_92 ?_
          refine so_sipush (v := (255 : Int32)) (pc := 93) hX dX10_feed_93 (by decide) ?_
          refine so_iand (pc := 96) hX dX10_feed_96 ?_
          obtain ⟨μ10, hr, h⟩ := ob h
          refine so_iast (pc := 97) hX dX10_feed_97 (ekM hL rfl) (elM hL rfl) hr ?_
          refine so_aload_n (pc := 98) hX dX10_feed_98 1 rfl ?_
          refine so_dup (pc := 99) hX dX10_feed_99 rfl ?_
          refine so_gI (pc := 100) hX dX10_feed_100 fl_X10_209 (ekM hL rfl) ?_
          refine so_iconst (v := (1 : Int32)) (pc := 103) hX dX10_feed_103 (by decide) ?_
          refine so_iadd (pc := 104) hX dX10_feed_104 ?_
          refine so_pI (pc := 105) hX dX10_feed_105 fl_X10_209 fw_10_25 (ekM hL rfl) rfl rfl ?_
          refine so_iinc (pc := 108) hX dX10_feed_108 7 (1 : Int32) [(6, .int (v6 + (1 : Int32))), (7, .int v2), (0, .ref (evA (xV X) 0)), (1, .int v1), (2, .int v2), (3, .int v3), (4, .int v4), (5, .int v5)] rfl (by decide) (by rw [hn]; decide) rfl ?_
          refine so_goto (pc := 111) hX 18 dX10_feed_111 (by decide) ?_
          refine so_sub (pc := 18) (lv' := [(0, .ref (evA (xV X) 0)), (1, .int v1), (2, .int v2), (3, .int v3), (4, .int v4), (5, .int v5), (6, .int (v6 + (1 : Int32)))]) [2, 3, 4, 5, 6, 7, 0] rfl ?_
          exact ih _ _ h
      · have h := iq hc3 h
        refine so_iload_n (pc := 31) hX dX10_feed_31 1 rfl ?_
        refine so_goto (pc := 32) hX 71 dX10_feed_32 (by decide) ?_
        refine so_istore (pc := 71) hX dX10_feed_71 [(7, .int v1), (0, .ref (evA (xV X) 0)), (1, .int v1), (2, .int v2), (3, .int v3), (4, .int v4), (5, .int v5), (6, .int v6)] (by rw [hn]; decide) rfl ?_
        refine so_aload_n (pc := 73) hX dX10_feed_73 1 rfl ?_
        refine so_gR (pc := 74) hX 24 dX10_feed_74 fl_X10_79 (ekM hL rfl) (erM hL rfl) ?_
        refine so_aload_n (pc := 77) hX dX10_feed_77 1 rfl ?_
        refine so_gI (pc := 78) hX dX10_feed_78 fl_X10_209 (ekM hL rfl) ?_
        refine so_iload (pc := 81) hX dX10_feed_81 0 rfl ?_
        refine so_bipush (v := (8 : Int32)) (pc := 83) hX dX10_feed_83 (by decide) ?_
        refine so_iconst (v := (3 : Int32)) (pc := 85) hX dX10_feed_85 (by decide) ?_
        refine so_iload (pc := 86) hX dX10_feed_86 7 rfl ?_
        refine so_iconst (v := (4 : Int32)) (pc := 88) hX dX10_feed_88 (by decide) ?_
        refine so_irem (pc := 89) hX dX10_feed_89 (by decide) ?_
        refine so_isub (pc := 90) hX dX10_feed_90 ?_
        refine so_imul (pc := 91) hX dX10_feed_91 ?_
        refine so_ishr (pc := 92) hX dX10_feed_92 ?_
        refine so_sipush (v := (255 : Int32)) (pc := 93) hX dX10_feed_93 (by decide) ?_
        refine so_iand (pc := 96) hX dX10_feed_96 ?_
        obtain ⟨μ11, hr, h⟩ := ob h
        refine so_iast (pc := 97) hX dX10_feed_97 (ekM hL rfl) (elM hL rfl) hr ?_
        refine so_aload_n (pc := 98) hX dX10_feed_98 1 rfl ?_
        refine so_dup (pc := 99) hX dX10_feed_99 rfl ?_
        refine so_gI (pc := 100) hX dX10_feed_100 fl_X10_209 (ekM hL rfl) ?_
        refine so_iconst (v := (1 : Int32)) (pc := 103) hX dX10_feed_103 (by decide) ?_
        refine so_iadd (pc := 104) hX dX10_feed_104 ?_
        refine so_pI (pc := 105) hX dX10_feed_105 fl_X10_209 fw_10_25 (ekM hL rfl) rfl rfl ?_
        refine so_iinc (pc := 108) hX dX10_feed_108 7 (1 : Int32) [(6, .int (v6 + (1 : Int32))), (7, .int v1), (0, .ref (evA (xV X) 0)), (1, .int v1), (2, .int v2), (3, .int v3), (4, .int v4), (5, .int v5)] rfl (by decide) (by rw [hn]; decide) rfl ?_
        refine so_goto (pc := 111) hX 18 dX10_feed_111 (by decide) ?_
        refine so_sub (pc := 18) (lv' := [(0, .ref (evA (xV X) 0)), (1, .int v1), (2, .int v2), (3, .int v3), (4, .int v4), (5, .int v5), (6, .int (v6 + (1 : Int32)))]) [2, 3, 4, 5, 6, 7, 0] rfl ?_
        exact ih _ _ h
set_option maxHeartbeats 4000000 in
set_option maxRecDepth 100000 in
theorem c_X10_feed {l : Launch} {V : Ev} (hL : V.2.2.2 = lyM) {v1 : Int32} {v2 : Int32} {v3 : Int32} {v4 : Int32} {v5 : Int32}  {μ : Mem} {rZ : Int32} {μZ : Mem} (h : f_X10_feed v1 v2 v3 v4 v5 μ = some (rZ, μZ)) : CT l V yX10_feed cX10_feed 8 (some .int) 0 [.ref (evA V 0), .int v1, .int v2, .int v3, .int v4, .int v5] μ μZ (some (.int rZ)) := by
  refine so_met [(0, .ref (evA V 0)), (1, .int v1), (2, .int v2), (3, .int v3), (4, .int v4), (5, .int v5)] (by decide) (Nat.le_of_ble_eq_true rfl) (evMn hL) rfl ?_
  intro X hl hV hn hX hR
  subst hl hV
  unfold f_X10_feed at h
  refine so_aload_n (pc := 0) hX dX10_feed_0 0 rfl ?_
  refine so_gI (pc := 1) hX dX10_feed_1 fl_X10_209 (ekM hL rfl) ?_
  refine so_bipush (v := (20 : Int32)) (pc := 4) hX dX10_feed_4 (by decide) ?_
  refine so_iadd (pc := 6) hX dX10_feed_6 ?_
  refine so_sipush (v := (400 : Int32)) (pc := 7) hX dX10_feed_7 (by decide) ?_
  refine so_icmp_le (pc := 10) hX 15 dX10_feed_10 (by decide) (fun hc1 => ?_) (fun hc1 => ?_)
  · have h := ip hc1 h
    refine so_iconst (v := (0 : Int32)) (pc := 15) hX dX10_feed_15 (by decide) ?_
    refine so_istore (pc := 16) hX dX10_feed_16 [(6, .int (0 : Int32)), (0, .ref (evA (xV X) 0)), (1, .int v1), (2, .int v2), (3, .int v3), (4, .int v4), (5, .int v5)] (by rw [hn]; decide) rfl ?_
    refine so_sub (pc := 18) (lv' := [(0, .ref (evA (xV X) 0)), (1, .int v1), (2, .int v2), (3, .int v3), (4, .int v4), (5, .int v5), (6, .int (0 : Int32))]) [1, 2, 3, 4, 5, 6, 0] rfl ?_
    refine g_X10_feed_L18 hX hL hn hR (fun μ12 h => ?_) FU _ _ h
    refine so_aload_n (pc := 114) hX dX10_feed_114 0 rfl ?_
    refine so_gI (pc := 115) hX dX10_feed_115 fl_X10_209 (ekM hL rfl) ?_
    exact so_iretH (pc := 118) hX hR h rfl dX10_feed_118
  · have h := iq hc1 h
    refine so_iconst (v := (-1 : Int32)) (pc := 13) hX dX10_feed_13 (by decide) ?_
    exact so_iretH (pc := 14) hX hR h rfl dX10_feed_14
