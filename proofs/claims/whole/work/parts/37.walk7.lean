set_option maxHeartbeats 4000000 in
set_option maxRecDepth 100000 in
theorem g_X10_greatest_L17 {X : Cx} (hX : Fx X cX10_greatest RX10 1) (hL : (xV X).2.2.2 = lyM) (hn : xn X = 5) {rZ : Int32} {μZ : Mem} (hR : Rt X (some .int) μZ (some (.int rZ))) {v1 : Int32} {v3 : Int32}  {K : Int32 → Mem → Option (Int32 × Mem)} (hK : ∀ (v2 : Int32) (μ : Mem), K v2 μ = some (rZ, μZ) → Gd X 61 [(0, .ref (evA (xV X) 0)), (1, .int v1), (2, .int v2), (3, .int v3)] [] μ) : ∀ (n : Nat) (v2 : Int32) (v4 : Int32) (μ : Mem), f_X10_greatest_L17 v1 v3 K n v2 v4 μ = some (rZ, μZ) → Gd X 17 [(0, .ref (evA (xV X) 0)), (1, .int v1), (2, .int v2), (3, .int v3), (4, .int v4)] [] μ := by
  intro n
  induction n with
  | zero => intro _ _ _ h; rw [f_X10_greatest_L17] at h; cases h
  | succ n ih =>
    intro v2 v4 μ h
    rw [f_X10_greatest_L17] at h
    refine so_iload (pc := 17) hX dX10_greatest_17 4 rfl ?_
    refine so_aload_n (pc := 19) hX dX10_greatest_19 0 rfl ?_
    refine so_gR (pc := 20) hX 38 dX10_greatest_20 fl_X10_125 (ekM hL rfl) (erM hL rfl) ?_
    refine so_iload_n (pc := 23) hX dX10_greatest_23 1 rfl ?_
    obtain ⟨e3, hr, h⟩ := ob h
    refine so_iald (pc := 24) hX dX10_greatest_24 (ekM hL rfl) (elM hL rfl) hr ?_
    refine so_icmp_ge (pc := 25) hX 61 dX10_greatest_25 (by decide) (fun hc4 => ?_) (fun hc4 => ?_)
    · have h := ip hc4 h
      refine so_sub (pc := 61) (lv' := [(0, .ref (evA (xV X) 0)), (1, .int v1), (2, .int v2), (3, .int v3)]) [0, 1, 2, 3] rfl ?_
      exact hK _ _ h
    · have h := iq hc4 h
      refine so_aload_n (pc := 28) hX dX10_greatest_28 0 rfl ?_
      refine so_iload_n (pc := 29) hX dX10_greatest_29 1 rfl ?_
      refine so_iload (pc := 30) hX dX10_greatest_30 4 rfl ?_
      refine so_iload_n (pc := 32) hX dX10_greatest_32 3 rfl ?_
      obtain ⟨r6, μ5, hr, h⟩ := obd h
      refine so_callV (As := [.int v1, .int v4, .int v3]) (rest := []) (pc := 33) hX dX10_greatest_33 (c_X10_pieceOf hL hr) mw_X10_pieceOf mv_X10_pieceOf ml_X10_279 (ekM hL rfl) (by decide) rfl rfl rfl rfl (by omega) (by decide) (Nat.le_of_ble_eq_true rfl) ?_
      refine so_bipush (v := (15 : Int32)) (pc := 36) hX dX10_greatest_36 (by decide) ?_
      refine so_iand (pc := 38) hX dX10_greatest_38 ?_
      refine so_iload_n (pc := 39) hX dX10_greatest_39 2 rfl ?_
      refine so_icmp_le (pc := 40) hX 55 dX10_greatest_40 (by decide) (fun hc7 => ?_) (fun hc7 => ?_)
      · have h := ip hc7 h
        refine so_iinc (pc := 55) hX dX10_greatest_55 4 (1 : Int32) [(4, .int (v4 + (1 : Int32))), (0, .ref (evA (xV X) 0)), (1, .int v1), (2, .int v2), (3, .int v3)] rfl (by decide) (by rw [hn]; decide) rfl ?_
        refine so_goto (pc := 58) hX 17 dX10_greatest_58 (by decide) ?_
        refine so_sub (pc := 17) (lv' := [(0, .ref (evA (xV X) 0)), (1, .int v1), (2, .int v2), (3, .int v3), (4, .int (v4 + (1 : Int32)))]) [1, 2, 3, 4, 0] rfl ?_
        exact ih _ _ _ h
      · have h := iq hc7 h
        refine so_aload_n (pc := 43) hX dX10_greatest_43 0 rfl ?_
        refine so_iload_n (pc := 44) hX dX10_greatest_44 1 rfl ?_
        refine so_iload (pc := 45) hX dX10_greatest_45 4 rfl ?_
        refine so_iload_n (pc := 47) hX dX10_greatest_47 3 rfl ?_
        obtain ⟨r9, μ8, hr, h⟩ := obd h
        refine so_callV (As := [.int v1, .int v4, .int v3]) (rest := []) (pc := 48) hX dX10_greatest_48 (c_X10_pieceOf hL hr) mw_X10_pieceOf mv_X10_pieceOf ml_X10_279 (ekM hL rfl) (by decide) rfl rfl rfl rfl (by omega) (by decide) (Nat.le_of_ble_eq_true rfl) ?_
        refine so_bipush (v := (15 : Int32)) (pc := 51) hX dX10_greatest_51 (by decide) ?_
        refine so_iand (pc := 53) hX dX10_greatest_53 ?_
        refine so_istore_n (pc := 54) hX dX10_greatest_54 [(2, .int (r9 &&& (15 : Int32))), (0, .ref (evA (xV X) 0)), (1, .int v1), (3, .int v3), (4, .int v4)] (by rw [hn]; decide) rfl ?_
        refine so_iinc (pc := 55) hX dX10_greatest_55 4 (1 : Int32) [(4, .int (v4 + (1 : Int32))), (2, .int (r9 &&& (15 : Int32))), (0, .ref (evA (xV X) 0)), (1, .int v1), (3, .int v3)] rfl (by decide) (by rw [hn]; decide) rfl ?_
        refine so_goto (pc := 58) hX 17 dX10_greatest_58 (by decide) ?_
        refine so_sub (pc := 17) (lv' := [(0, .ref (evA (xV X) 0)), (1, .int v1), (2, .int (r9 &&& (15 : Int32))), (3, .int v3), (4, .int (v4 + (1 : Int32)))]) [2, 3, 1, 4, 0] rfl ?_
        exact ih _ _ _ h
set_option maxHeartbeats 4000000 in
set_option maxRecDepth 100000 in
theorem g_X10_greatest_L4 {X : Cx} (hX : Fx X cX10_greatest RX10 1) (hL : (xV X).2.2.2 = lyM) (hn : xn X = 5) {rZ : Int32} {μZ : Mem} (hR : Rt X (some .int) μZ (some (.int rZ))) {v1 : Int32}  {K : Int32 → Mem → Option (Int32 × Mem)} (hK : ∀ (v2 : Int32) (μ : Mem), K v2 μ = some (rZ, μZ) → Gd X 67 [(2, .int v2)] [] μ) : ∀ (n : Nat) (v2 : Int32) (v3 : Int32) (μ : Mem), f_X10_greatest_L4 v1 K n v2 v3 μ = some (rZ, μZ) → Gd X 4 [(0, .ref (evA (xV X) 0)), (1, .int v1), (2, .int v2), (3, .int v3)] [] μ := by
  intro n
  induction n with
  | zero => intro _ _ _ h; rw [f_X10_greatest_L4] at h; cases h
  | succ n ih =>
    intro v2 v3 μ h
    rw [f_X10_greatest_L4] at h
    refine so_iload_n (pc := 4) hX dX10_greatest_4 3 rfl ?_
    refine so_aload_n (pc := 5) hX dX10_greatest_5 0 rfl ?_
    refine so_gR (pc := 6) hX 39 dX10_greatest_6 fl_X10_128 (ekM hL rfl) (erM hL rfl) ?_
    refine so_iload_n (pc := 9) hX dX10_greatest_9 1 rfl ?_
    obtain ⟨e1, hr, h⟩ := ob h
    refine so_iald (pc := 10) hX dX10_greatest_10 (ekM hL rfl) (elM hL rfl) hr ?_
    refine so_icmp_ge (pc := 11) hX 67 dX10_greatest_11 (by decide) (fun hc2 => ?_) (fun hc2 => ?_)
    · have h := ip hc2 h
      refine so_sub (pc := 67) (lv' := [(2, .int v2)]) [2] rfl ?_
      exact hK _ _ h
    · have h := iq hc2 h
      refine so_iconst (v := (0 : Int32)) (pc := 14) hX dX10_greatest_14 (by decide) ?_
      refine so_istore (pc := 15) hX dX10_greatest_15 [(4, .int (0 : Int32)), (0, .ref (evA (xV X) 0)), (1, .int v1), (2, .int v2), (3, .int v3)] (by rw [hn]; decide) rfl ?_
      refine so_sub (pc := 17) (lv' := [(0, .ref (evA (xV X) 0)), (1, .int v1), (2, .int v2), (3, .int v3), (4, .int (0 : Int32))]) [1, 2, 3, 4, 0] rfl ?_
      refine g_X10_greatest_L17 hX hL hn hR (fun w10 μ11 h => ?_) FU _ _ _ h
      refine so_iinc (pc := 61) hX dX10_greatest_61 3 (1 : Int32) [(3, .int (v3 + (1 : Int32))), (0, .ref (evA (xV X) 0)), (1, .int v1), (2, .int w10)] rfl (by decide) (by rw [hn]; decide) rfl ?_
      refine so_goto (pc := 64) hX 4 dX10_greatest_64 (by decide) ?_
      refine so_sub (pc := 4) (lv' := [(0, .ref (evA (xV X) 0)), (1, .int v1), (2, .int w10), (3, .int (v3 + (1 : Int32)))]) [1, 2, 3, 0] rfl ?_
      exact ih _ _ _ h
set_option maxHeartbeats 4000000 in
set_option maxRecDepth 100000 in
theorem c_X10_greatest {l : Launch} {V : Ev} (hL : V.2.2.2 = lyM) {v1 : Int32}  {μ : Mem} {rZ : Int32} {μZ : Mem} (h : f_X10_greatest v1 μ = some (rZ, μZ)) : CT l V yX10_greatest cX10_greatest 5 (some .int) 1 [.ref (evA V 0), .int v1] μ μZ (some (.int rZ)) := by
  refine so_met [(0, .ref (evA V 0)), (1, .int v1)] (by decide) (Nat.le_of_ble_eq_true rfl) (evMn hL) rfl ?_
  intro X hl hV hn hX hR
  subst hl hV
  unfold f_X10_greatest at h
  refine so_iconst (v := (0 : Int32)) (pc := 0) hX dX10_greatest_0 (by decide) ?_
  refine so_istore_n (pc := 1) hX dX10_greatest_1 [(2, .int (0 : Int32)), (0, .ref (evA (xV X) 0)), (1, .int v1)] (by rw [hn]; decide) rfl ?_
  refine so_iconst (v := (0 : Int32)) (pc := 2) hX dX10_greatest_2 (by decide) ?_
  refine so_istore_n (pc := 3) hX dX10_greatest_3 [(3, .int (0 : Int32)), (2, .int (0 : Int32)), (0, .ref (evA (xV X) 0)), (1, .int v1)] (by rw [hn]; decide) rfl ?_
  refine so_sub (pc := 4) (lv' := [(0, .ref (evA (xV X) 0)), (1, .int v1), (2, .int (0 : Int32)), (3, .int (0 : Int32))]) [2, 3, 1, 0] rfl ?_
  refine g_X10_greatest_L4 hX hL hn hR (fun w12 μ13 h => ?_) FU _ _ _ h
  refine so_iload_n (pc := 67) hX dX10_greatest_67 0 rfl ?_
  exact so_iretH (pc := 68) hX hR h rfl dX10_greatest_68
set_option maxHeartbeats 4000000 in
set_option maxRecDepth 100000 in
theorem c_X10_of {l : Launch} {V : Ev} (hL : V.2.2.2 = lyM) {v1 : Int32} {v2 : Int32}  {μ : Mem} {rZ : Int32} {μZ : Mem} (h : f_X10_of v1 v2 μ = some (rZ, μZ)) : CT l V yX10_of cX10_of 4 (some .int) 3 [.ref (evA V 0), .int v1, .int v2] μ μZ (some (.int rZ)) := by
  refine so_met [(0, .ref (evA V 0)), (1, .int v1), (2, .int v2)] (by decide) (Nat.le_of_ble_eq_true rfl) (evMn hL) rfl ?_
  intro X hl hV hn hX hR
  subst hl hV
  unfold f_X10_of at h
  refine so_aload_n (pc := 0) hX dX10_of_0 0 rfl ?_
  refine so_iload_n (pc := 1) hX dX10_of_1 1 rfl ?_
  obtain ⟨r2, μ1, hr, h⟩ := obd h
  refine so_callV (As := [.int v1]) (rest := []) (pc := 2) hX dX10_of_2 (c_X10_isDoor hL hr) mw_X10_isDoor mv_X10_isDoor ml_X10_276 (ekM hL rfl) (by decide) rfl rfl rfl rfl (by omega) (by decide) (Nat.le_of_ble_eq_true rfl) ?_
  refine so_if_ne (pc := 5) hX 10 dX10_of_5 (by decide) (fun hc3 => ?_) (fun hc3 => ?_)
  · have h := iq hc3 h
    refine so_aload_n (pc := 10) hX dX10_of_10 0 rfl ?_
    refine so_gR (pc := 11) hX 44 dX10_of_11 fl_X10_143 (ekM hL rfl) (erM hL rfl) ?_
    refine so_iload_n (pc := 14) hX dX10_of_14 1 rfl ?_
    obtain ⟨e4, hr, h⟩ := ob h
    refine so_iald (pc := 15) hX dX10_of_15 (ekM hL rfl) (elM hL rfl) hr ?_
    refine so_iconst (v := (-1 : Int32)) (pc := 16) hX dX10_of_16 (by decide) ?_
    refine so_icmp_eq (pc := 17) hX 24 dX10_of_17 (by decide) (fun hc5 => ?_) (fun hc5 => ?_)
    · have h := ip hc5 h
      refine so_iconst (v := (0 : Int32)) (pc := 24) hX dX10_of_24 (by decide) ?_
      refine so_istore_n (pc := 25) hX dX10_of_25 [(3, .int (0 : Int32)), (0, .ref (evA (xV X) 0)), (1, .int v1), (2, .int v2)] (by rw [hn]; decide) rfl ?_
      refine so_iload_n (pc := 26) hX dX10_of_26 3 rfl ?_
      by_cases hc6 : v2 = (0 : Int32)
      · have h := ip hc6 h
        refine so_tabIn (off := 53) (pc := 27) hX 80 dX10_of_27 (by rw [hc6]; decide) (by rw [hc6]; decide) (by rw [hc6]; rfl) (by decide) ?_
        refine so_aload_n (pc := 80) hX dX10_of_80 1 rfl ?_
        refine so_gR (pc := 81) hX 38 dX10_of_81 fl_X10_125 (ekM hL rfl) (erM hL rfl) ?_
        refine so_iload_n (pc := 84) hX dX10_of_84 2 rfl ?_
        obtain ⟨e7, hr, h⟩ := ob h
        refine so_iald (pc := 85) hX dX10_of_85 (ekM hL rfl) (elM hL rfl) hr ?_
        exact so_iretH (pc := 86) hX hR h rfl dX10_of_86
      · have h := iq hc6 h
        by_cases hc8 : v2 = (1 : Int32)
        · have h := ip hc8 h
          refine so_tabIn (off := 60) (pc := 27) hX 87 dX10_of_27 (by rw [hc8]; decide) (by rw [hc8]; decide) (by rw [hc8]; rfl) (by decide) ?_
          refine so_aload_n (pc := 87) hX dX10_of_87 1 rfl ?_
          refine so_gR (pc := 88) hX 39 dX10_of_88 fl_X10_128 (ekM hL rfl) (erM hL rfl) ?_
          refine so_iload_n (pc := 91) hX dX10_of_91 2 rfl ?_
          obtain ⟨e9, hr, h⟩ := ob h
          refine so_iald (pc := 92) hX dX10_of_92 (ekM hL rfl) (elM hL rfl) hr ?_
          exact so_iretH (pc := 93) hX hR h rfl dX10_of_93
        · have h := iq hc8 h
          by_cases hc10 : v2 = (2 : Int32)
          · have h := ip hc10 h
            refine so_tabIn (off := 67) (pc := 27) hX 94 dX10_of_27 (by rw [hc10]; decide) (by rw [hc10]; decide) (by rw [hc10]; rfl) (by decide) ?_
            refine so_aload_n (pc := 94) hX dX10_of_94 1 rfl ?_
            refine so_iload_n (pc := 95) hX dX10_of_95 2 rfl ?_
            obtain ⟨r12, μ11, hr, h⟩ := obd h
            refine so_callV (As := [.int v1]) (rest := []) (pc := 96) hX dX10_of_96 (c_X10_greatest hL hr) mw_X10_greatest mv_X10_greatest ml_X10_291 (ekM hL rfl) (by decide) rfl rfl rfl rfl (by omega) (by decide) (Nat.le_of_ble_eq_true rfl) ?_
            exact so_iretH (pc := 99) hX hR h rfl dX10_of_99
          · have h := iq hc10 h
            by_cases hc13 : v2 = (3 : Int32)
            · have h := ip hc13 h
              refine so_tabIn (off := 73) (pc := 27) hX 100 dX10_of_27 (by rw [hc13]; decide) (by rw [hc13]; decide) (by rw [hc13]; rfl) (by decide) ?_
              refine so_aload_n (pc := 100) hX dX10_of_100 1 rfl ?_
              refine so_iload_n (pc := 101) hX dX10_of_101 2 rfl ?_
              refine so_iconst (v := (2 : Int32)) (pc := 102) hX dX10_of_102 (by decide) ?_
              obtain ⟨r15, μ14, hr, h⟩ := obd h
              refine so_callV (As := [.int v1, .int (2 : Int32)]) (rest := []) (pc := 103) hX dX10_of_103 (c_X10_joints hL hr) mw_X10_joints mv_X10_joints ml_X10_295 (ekM hL rfl) (by decide) rfl rfl rfl rfl (by omega) (by decide) (Nat.le_of_ble_eq_true rfl) ?_
              exact so_iretH (pc := 106) hX hR h rfl dX10_of_106
            · have h := iq hc13 h
              by_cases hc16 : v2 = (4 : Int32)
              · have h := ip hc16 h
                refine so_tabIn (off := 80) (pc := 27) hX 107 dX10_of_27 (by rw [hc16]; decide) (by rw [hc16]; decide) (by rw [hc16]; rfl) (by decide) ?_
                refine so_aload_n (pc := 107) hX dX10_of_107 1 rfl ?_
                refine so_iload_n (pc := 108) hX dX10_of_108 2 rfl ?_
                refine so_iconst (v := (1 : Int32)) (pc := 109) hX dX10_of_109 (by decide) ?_
                obtain ⟨r18, μ17, hr, h⟩ := obd h
                refine so_callV (As := [.int v1, .int (1 : Int32)]) (rest := []) (pc := 110) hX dX10_of_110 (c_X10_joints hL hr) mw_X10_joints mv_X10_joints ml_X10_295 (ekM hL rfl) (by decide) rfl rfl rfl rfl (by omega) (by decide) (Nat.le_of_ble_eq_true rfl) ?_
                exact so_iretH (pc := 113) hX hR h rfl dX10_of_113
              · have h := iq hc16 h
                by_cases hc19 : v2 = (5 : Int32)
                · have h := ip hc19 h
                  refine so_tabIn (off := 87) (pc := 27) hX 114 dX10_of_27 (by rw [hc19]; decide) (by rw [hc19]; decide) (by rw [hc19]; rfl) (by decide) ?_
                  refine so_aload_n (pc := 114) hX dX10_of_114 1 rfl ?_
                  refine so_iload_n (pc := 115) hX dX10_of_115 2 rfl ?_
                  refine so_iconst (v := (0 : Int32)) (pc := 116) hX dX10_of_116 (by decide) ?_
                  obtain ⟨r21, μ20, hr, h⟩ := obd h
                  refine so_callV (As := [.int v1, .int (0 : Int32)]) (rest := []) (pc := 117) hX dX10_of_117 (c_X10_joints hL hr) mw_X10_joints mv_X10_joints ml_X10_295 (ekM hL rfl) (by decide) rfl rfl rfl rfl (by omega) (by decide) (Nat.le_of_ble_eq_true rfl) ?_
                  exact so_iretH (pc := 120) hX hR h rfl dX10_of_120
                · have h := iq hc19 h
                  by_cases hc22 : v2 = (6 : Int32)
                  · have h := ip hc22 h
                    refine so_tabIn (off := 94) (pc := 27) hX 121 dX10_of_27 (by rw [hc22]; decide) (by rw [hc22]; decide) (by rw [hc22]; rfl) (by decide) ?_
                    refine so_aload_n (pc := 121) hX dX10_of_121 1 rfl ?_
                    refine so_gR (pc := 122) hX 44 dX10_of_122 fl_X10_143 (ekM hL rfl) (erM hL rfl) ?_
                    refine so_iload_n (pc := 125) hX dX10_of_125 2 rfl ?_
                    obtain ⟨e23, hr, h⟩ := ob h
                    refine so_iald (pc := 126) hX dX10_of_126 (ekM hL rfl) (elM hL rfl) hr ?_
                    exact so_iretH (pc := 127) hX hR h rfl dX10_of_127
                  · have h := iq hc22 h
                    by_cases hc24 : v2 = (7 : Int32)
                    · have h := ip hc24 h
                      refine so_tabIn (off := 101) (pc := 27) hX 128 dX10_of_27 (by rw [hc24]; decide) (by rw [hc24]; decide) (by rw [hc24]; rfl) (by decide) ?_
                      refine so_iload_n (pc := 128) hX dX10_of_128 0 rfl ?_
                      refine so_if_eq (pc := 129) hX 141 dX10_of_129 (by decide) (fun _ => ?_) (fun hz => absurd hz (by decide))
                      refine so_iconst (v := (-1 : Int32)) (pc := 141) hX dX10_of_141 (by decide) ?_
                      exact so_iretH (pc := 142) hX hR h rfl dX10_of_142
                    · have h := iq hc24 h
                      by_cases hc25 : v2 = (8 : Int32)
                      · have h := ip hc25 h
                        refine so_tabIn (off := 116) (pc := 27) hX 143 dX10_of_27 (by rw [hc25]; decide) (by rw [hc25]; decide) (by rw [hc25]; rfl) (by decide) ?_
                        refine so_iload_n (pc := 143) hX dX10_of_143 0 rfl ?_
                        refine so_if_eq (pc := 144) hX 156 dX10_of_144 (by decide) (fun _ => ?_) (fun hz => absurd hz (by decide))
                        refine so_iconst (v := (-1 : Int32)) (pc := 156) hX dX10_of_156 (by decide) ?_
                        exact so_iretH (pc := 157) hX hR h rfl dX10_of_157
                      · have h := iq hc25 h
                        by_cases hc26 : v2 = (9 : Int32)
                        · have h := ip hc26 h
                          refine so_tabIn (off := 131) (pc := 27) hX 158 dX10_of_27 (by rw [hc26]; decide) (by rw [hc26]; decide) (by rw [hc26]; rfl) (by decide) ?_
                          refine so_iload_n (pc := 158) hX dX10_of_158 0 rfl ?_
                          refine so_if_eq (pc := 159) hX 171 dX10_of_159 (by decide) (fun _ => ?_) (fun hz => absurd hz (by decide))
                          refine so_iconst (v := (-1 : Int32)) (pc := 171) hX dX10_of_171 (by decide) ?_
                          exact so_iretH (pc := 172) hX hR h rfl dX10_of_172
                        · have h := iq hc26 h
                          refine so_tabOut (pc := 27) hX 173 dX10_of_27 (tabO10 hc6 hc8 hc10 hc13 hc16 hc19 hc22 hc24 hc25 hc26) (by decide) ?_
                          refine so_iconst (v := (-1 : Int32)) (pc := 173) hX dX10_of_173 (by decide) ?_
                          exact so_iretH (pc := 174) hX hR h rfl dX10_of_174
    · have h := iq hc5 h
      refine so_iconst (v := (1 : Int32)) (pc := 20) hX dX10_of_20 (by decide) ?_
      refine so_goto (pc := 21) hX 25 dX10_of_21 (by decide) ?_
      refine so_istore_n (pc := 25) hX dX10_of_25 [(3, .int (1 : Int32)), (0, .ref (evA (xV X) 0)), (1, .int v1), (2, .int v2)] (by rw [hn]; decide) rfl ?_
      refine so_iload_n (pc := 26) hX dX10_of_26 3 rfl ?_
      by_cases hc27 : v2 = (0 : Int32)
      · have h := ip hc27 h
        refine so_tabIn (off := 53) (pc := 27) hX 80 dX10_of_27 (by rw [hc27]; decide) (by rw [hc27]; decide) (by rw [hc27]; rfl) (by decide) ?_
        refine so_aload_n (pc := 80) hX dX10_of_80 1 rfl ?_
        refine so_gR (pc := 81) hX 38 dX10_of_81 fl_X10_125 (ekM hL rfl) (erM hL rfl) ?_
        refine so_iload_n (pc := 84) hX dX10_of_84 2 rfl ?_
        obtain ⟨e28, hr, h⟩ := ob h
        refine so_iald (pc := 85) hX dX10_of_85 (ekM hL rfl) (elM hL rfl) hr ?_
        exact so_iretH (pc := 86) hX hR h rfl dX10_of_86
      · have h := iq hc27 h
        by_cases hc29 : v2 = (1 : Int32)
        · have h := ip hc29 h
          refine so_tabIn (off := 60) (pc := 27) hX 87 dX10_of_27 (by rw [hc29]; decide) (by rw [hc29]; decide) (by rw [hc29]; rfl) (by decide) ?_
          refine so_aload_n (pc := 87) hX dX10_of_87 1 rfl ?_
          refine so_gR (pc := 88) hX 39 dX10_of_88 fl_X10_128 (ekM hL rfl) (erM hL rfl) ?_
          refine so_iload_n (pc := 91) hX dX10_of_91 2 rfl ?_
          obtain ⟨e30, hr, h⟩ := ob h
          refine so_iald (pc := 92) hX dX10_of_92 (ekM hL rfl) (elM hL rfl) hr ?_
          exact so_iretH (pc := 93) hX hR h rfl dX10_of_93
        · have h := iq hc29 h
          by_cases hc31 : v2 = (2 : Int32)
          · have h := ip hc31 h
            refine so_tabIn (off := 67) (pc := 27) hX 94 dX10_of_27 (by rw [hc31]; decide) (by rw [hc31]; decide) (by rw [hc31]; rfl) (by decide) ?_
            refine so_aload_n (pc := 94) hX dX10_of_94 1 rfl ?_
            refine so_iload_n (pc := 95) hX dX10_of_95 2 rfl ?_
            obtain ⟨r33, μ32, hr, h⟩ := obd h
            refine so_callV (As := [.int v1]) (rest := []) (pc := 96) hX dX10_of_96 (c_X10_greatest hL hr) mw_X10_greatest mv_X10_greatest ml_X10_291 (ekM hL rfl) (by decide) rfl rfl rfl rfl (by omega) (by decide) (Nat.le_of_ble_eq_true rfl) ?_
            exact so_iretH (pc := 99) hX hR h rfl dX10_of_99
          · have h := iq hc31 h
            by_cases hc34 : v2 = (3 : Int32)
            · have h := ip hc34 h
              refine so_tabIn (off := 73) (pc := 27) hX 100 dX10_of_27 (by rw [hc34]; decide) (by rw [hc34]; decide) (by rw [hc34]; rfl) (by decide) ?_
              refine so_aload_n (pc := 100) hX dX10_of_100 1 rfl ?_
              refine so_iload_n (pc := 101) hX dX10_of_101 2 rfl ?_
              refine so_iconst (v := (2 : Int32)) (pc := 102) hX dX10_of_102 (by decide) ?_
              obtain ⟨r36, μ35, hr, h⟩ := obd h
              refine so_callV (As := [.int v1, .int (2 : Int32)]) (rest := []) (pc := 103) hX dX10_of_103 (c_X10_joints hL hr) mw_X10_joints mv_X10_joints ml_X10_295 (ekM hL rfl) (by decide) rfl rfl rfl rfl (by omega) (by decide) (Nat.le_of_ble_eq_true rfl) ?_
              exact so_iretH (pc := 106) hX hR h rfl dX10_of_106
            · have h := iq hc34 h
              by_cases hc37 : v2 = (4 : Int32)
              · have h := ip hc37 h
                refine so_tabIn (off := 80) (pc := 27) hX 107 dX10_of_27 (by rw [hc37]; decide) (by rw [hc37]; decide) (by rw [hc37]; rfl) (by decide) ?_
                refine so_aload_n (pc := 107) hX dX10_of_107 1 rfl ?_
                refine so_iload_n (pc := 108) hX dX10_of_108 2 rfl ?_
                refine so_iconst (v := (1 : Int32)) (pc := 109) hX dX10_of_109 (by decide) ?_
                obtain ⟨r39, μ38, hr, h⟩ := obd h
                refine so_callV (As := [.int v1, .int (1 : Int32)]) (rest := []) (pc := 110) hX dX10_of_110 (c_X10_joints hL hr) mw_X10_joints mv_X10_joints ml_X10_295 (ekM hL rfl) (by decide) rfl rfl rfl rfl (by omega) (by decide) (Nat.le_of_ble_eq_true rfl) ?_
                exact so_iretH (pc := 113) hX hR h rfl dX10_of_113
              · have h := iq hc37 h
                by_cases hc40 : v2 = (5 : Int32)
                · have h := ip hc40 h
                  refine so_tabIn (off := 87) (pc := 27) hX 114 dX10_of_27 (by rw [hc40]; decide) (by rw [hc40]; decide) (by rw [hc40]; rfl) (by decide) ?_
                  refine so_aload_n (pc := 114) hX dX10_of_114 1 rfl ?_
                  refine so_iload_n (pc := 115) hX dX10_of_115 2 rfl ?_
                  refine so_iconst (v := (0 : Int32)) (pc := 116) hX dX10_of_116 (by decide) ?_
                  obtain ⟨r42, μ41, hr, h⟩ := obd h
                  refine so_callV (As := [.int v1, .int (0 : Int32)]) (rest := []) (pc := 117) hX dX10_of_117 (c_X10_joints hL hr) mw_X10_joints mv_X10_joints ml_X10_295 (ekM hL rfl) (by decide) rfl rfl rfl rfl (by omega) (by decide) (Nat.le_of_ble_eq_true rfl) ?_
                  exact so_iretH (pc := 120) hX hR h rfl dX10_of_120
                · have h := iq hc40 h
                  by_cases hc43 : v2 = (6 : Int32)
                  · have h := ip hc43 h
                    refine so_tabIn (off := 94) (pc := 27) hX 121 dX10_of_27 (by rw [hc43]; decide) (by rw [hc43]; decide) (by rw [hc43]; rfl) (by decide) ?_
                    refine so_aload_n (pc := 121) hX dX10_of_121 1 rfl ?_
                    refine so_gR (pc := 122) hX 44 dX10_of_122 fl_X10_143 (ekM hL rfl) (erM hL rfl) ?_
                    refine so_iload_n (pc := 125) hX dX10_of_125 2 rfl ?_
                    obtain ⟨e44, hr, h⟩ := ob h
                    refine so_iald (pc := 126) hX dX10_of_126 (ekM hL rfl) (elM hL rfl) hr ?_
                    exact so_iretH (pc := 127) hX hR h rfl dX10_of_127
                  · have h := iq hc43 h
                    by_cases hc45 : v2 = (7 : Int32)
                    · have h := ip hc45 h
                      refine so_tabIn (off := 101) (pc := 27) hX 128 dX10_of_27 (by rw [hc45]; decide) (by rw [hc45]; decide) (by rw [hc45]; rfl) (by decide) ?_
                      refine so_iload_n (pc := 128) hX dX10_of_128 0 rfl ?_
                      refine so_if_eq (pc := 129) hX 141 dX10_of_129 (by decide) (fun hz => absurd hz (by decide)) (fun _ => ?_)
                      refine so_aload_n (pc := 132) hX dX10_of_132 1 rfl ?_
                      refine so_gR (pc := 133) hX 45 dX10_of_133 fl_X10_146 (ekM hL rfl) (erM hL rfl) ?_
                      refine so_iload_n (pc := 136) hX dX10_of_136 2 rfl ?_
                      obtain ⟨e46, hr, h⟩ := ob h
                      refine so_iald (pc := 137) hX dX10_of_137 (ekM hL rfl) (elM hL rfl) hr ?_
                      refine so_goto (pc := 138) hX 142 dX10_of_138 (by decide) ?_
                      exact so_iretH (pc := 142) hX hR h rfl dX10_of_142
                    · have h := iq hc45 h
                      by_cases hc47 : v2 = (8 : Int32)
                      · have h := ip hc47 h
                        refine so_tabIn (off := 116) (pc := 27) hX 143 dX10_of_27 (by rw [hc47]; decide) (by rw [hc47]; decide) (by rw [hc47]; rfl) (by decide) ?_
                        refine so_iload_n (pc := 143) hX dX10_of_143 0 rfl ?_
                        refine so_if_eq (pc := 144) hX 156 dX10_of_144 (by decide) (fun hz => absurd hz (by decide)) (fun _ => ?_)
                        refine so_aload_n (pc := 147) hX dX10_of_147 1 rfl ?_
                        refine so_gR (pc := 148) hX 46 dX10_of_148 fl_X10_149 (ekM hL rfl) (erM hL rfl) ?_
                        refine so_iload_n (pc := 151) hX dX10_of_151 2 rfl ?_
                        obtain ⟨e48, hr, h⟩ := ob h
                        refine so_iald (pc := 152) hX dX10_of_152 (ekM hL rfl) (elM hL rfl) hr ?_
                        refine so_goto (pc := 153) hX 157 dX10_of_153 (by decide) ?_
                        exact so_iretH (pc := 157) hX hR h rfl dX10_of_157
                      · have h := iq hc47 h
                        by_cases hc49 : v2 = (9 : Int32)
                        · have h := ip hc49 h
                          refine so_tabIn (off := 131) (pc := 27) hX 158 dX10_of_27 (by rw [hc49]; decide) (by rw [hc49]; decide) (by rw [hc49]; rfl) (by decide) ?_
                          refine so_iload_n (pc := 158) hX dX10_of_158 0 rfl ?_
                          refine so_if_eq (pc := 159) hX 171 dX10_of_159 (by decide) (fun hz => absurd hz (by decide)) (fun _ => ?_)
                          refine so_aload_n (pc := 162) hX dX10_of_162 1 rfl ?_
                          refine so_gR (pc := 163) hX 47 dX10_of_163 fl_X10_152 (ekM hL rfl) (erM hL rfl) ?_
                          refine so_iload_n (pc := 166) hX dX10_of_166 2 rfl ?_
                          obtain ⟨e50, hr, h⟩ := ob h
                          refine so_iald (pc := 167) hX dX10_of_167 (ekM hL rfl) (elM hL rfl) hr ?_
                          refine so_goto (pc := 168) hX 172 dX10_of_168 (by decide) ?_
                          exact so_iretH (pc := 172) hX hR h rfl dX10_of_172
                        · have h := iq hc49 h
                          refine so_tabOut (pc := 27) hX 173 dX10_of_27 (tabO10 hc27 hc29 hc31 hc34 hc37 hc40 hc43 hc45 hc47 hc49) (by decide) ?_
                          refine so_iconst (v := (-1 : Int32)) (pc := 173) hX dX10_of_173 (by decide) ?_
                          exact so_iretH (pc := 174) hX hR h rfl dX10_of_174
  · have h := ip hc3 h
    refine so_iconst (v := (-1 : Int32)) (pc := 8) hX dX10_of_8 (by decide) ?_
    exact so_iretH (pc := 9) hX hR h rfl dX10_of_9
set_option maxHeartbeats 4000000 in
set_option maxRecDepth 100000 in
theorem c_X10_piece {l : Launch} {V : Ev} (hL : V.2.2.2 = lyM) {v1 : Int32} {v2 : Int32} {v3 : Int32}  {μ : Mem} {rZ : Int32} {μZ : Mem} (h : f_X10_piece v1 v2 v3 μ = some (rZ, μZ)) : CT l V yX10_piece cX10_piece 4 (some .int) 1 [.ref (evA V 0), .int v1, .int v2, .int v3] μ μZ (some (.int rZ)) := by
  refine so_met [(0, .ref (evA V 0)), (1, .int v1), (2, .int v2), (3, .int v3)] (by decide) (Nat.le_of_ble_eq_true rfl) (evMn hL) rfl ?_
  intro X hl hV hn hX hR
  subst hl hV
  unfold f_X10_piece at h
  refine so_aload_n (pc := 0) hX dX10_piece_0 0 rfl ?_
  refine so_iload_n (pc := 1) hX dX10_piece_1 1 rfl ?_
  obtain ⟨r2, μ1, hr, h⟩ := obd h
  refine so_callV (As := [.int v1]) (rest := []) (pc := 2) hX dX10_piece_2 (c_X10_isDoor hL hr) mw_X10_isDoor mv_X10_isDoor ml_X10_276 (ekM hL rfl) (by decide) rfl rfl rfl rfl (by omega) (by decide) (Nat.le_of_ble_eq_true rfl) ?_
  refine so_if_eq (pc := 5) hX 46 dX10_piece_5 (by decide) (fun hc3 => ?_) (fun hc3 => ?_)
  · have h := ip hc3 h
    refine so_iconst (v := (-1 : Int32)) (pc := 46) hX dX10_piece_46 (by decide) ?_
    exact so_iretH (pc := 47) hX hR h rfl dX10_piece_47
  · have h := iq hc3 h
    refine so_iload_n (pc := 8) hX dX10_piece_8 2 rfl ?_
    refine so_if_lt (pc := 9) hX 46 dX10_piece_9 (by decide) (fun hc4 => ?_) (fun hc4 => ?_)
    · have h := ip hc4 h
      refine so_iconst (v := (-1 : Int32)) (pc := 46) hX dX10_piece_46 (by decide) ?_
      exact so_iretH (pc := 47) hX hR h rfl dX10_piece_47
    · have h := iq hc4 h
      refine so_iload_n (pc := 12) hX dX10_piece_12 2 rfl ?_
      refine so_aload_n (pc := 13) hX dX10_piece_13 0 rfl ?_
      refine so_gR (pc := 14) hX 38 dX10_piece_14 fl_X10_125 (ekM hL rfl) (erM hL rfl) ?_
      refine so_iload_n (pc := 17) hX dX10_piece_17 1 rfl ?_
      obtain ⟨e5, hr, h⟩ := ob h
      refine so_iald (pc := 18) hX dX10_piece_18 (ekM hL rfl) (elM hL rfl) hr ?_
      refine so_icmp_ge (pc := 19) hX 46 dX10_piece_19 (by decide) (fun hc6 => ?_) (fun hc6 => ?_)
      · have h := ip hc6 h
        refine so_iconst (v := (-1 : Int32)) (pc := 46) hX dX10_piece_46 (by decide) ?_
        exact so_iretH (pc := 47) hX hR h rfl dX10_piece_47
      · have h := iq hc6 h
        refine so_iload_n (pc := 22) hX dX10_piece_22 3 rfl ?_
        refine so_if_lt (pc := 23) hX 46 dX10_piece_23 (by decide) (fun hc7 => ?_) (fun hc7 => ?_)
        · have h := ip hc7 h
          refine so_iconst (v := (-1 : Int32)) (pc := 46) hX dX10_piece_46 (by decide) ?_
          exact so_iretH (pc := 47) hX hR h rfl dX10_piece_47
        · have h := iq hc7 h
          refine so_iload_n (pc := 26) hX dX10_piece_26 3 rfl ?_
          refine so_aload_n (pc := 27) hX dX10_piece_27 0 rfl ?_
          refine so_gR (pc := 28) hX 39 dX10_piece_28 fl_X10_128 (ekM hL rfl) (erM hL rfl) ?_
          refine so_iload_n (pc := 31) hX dX10_piece_31 1 rfl ?_
          obtain ⟨e8, hr, h⟩ := ob h
          refine so_iald (pc := 32) hX dX10_piece_32 (ekM hL rfl) (elM hL rfl) hr ?_
          refine so_icmp_ge (pc := 33) hX 46 dX10_piece_33 (by decide) (fun hc9 => ?_) (fun hc9 => ?_)
          · have h := ip hc9 h
            refine so_iconst (v := (-1 : Int32)) (pc := 46) hX dX10_piece_46 (by decide) ?_
            exact so_iretH (pc := 47) hX hR h rfl dX10_piece_47
          · have h := iq hc9 h
            refine so_aload_n (pc := 36) hX dX10_piece_36 0 rfl ?_
            refine so_iload_n (pc := 37) hX dX10_piece_37 1 rfl ?_
            refine so_iload_n (pc := 38) hX dX10_piece_38 2 rfl ?_
            refine so_iload_n (pc := 39) hX dX10_piece_39 3 rfl ?_
            obtain ⟨r11, μ10, hr, h⟩ := obd h
            refine so_callV (As := [.int v1, .int v2, .int v3]) (rest := []) (pc := 40) hX dX10_piece_40 (c_X10_pieceOf hL hr) mw_X10_pieceOf mv_X10_pieceOf ml_X10_279 (ekM hL rfl) (by decide) rfl rfl rfl rfl (by omega) (by decide) (Nat.le_of_ble_eq_true rfl) ?_
            refine so_goto (pc := 43) hX 47 dX10_piece_43 (by decide) ?_
            exact so_iretH (pc := 47) hX hR h rfl dX10_piece_47
set_option maxHeartbeats 4000000 in
set_option maxRecDepth 100000 in
theorem g_X10_same_L82 {X : Cx} (hX : Fx X cX10_same RX10 1) (hL : (xV X).2.2.2 = lyM) (hn : xn X = 6) {rZ : Int32} {μZ : Mem} (hR : Rt X (some .int) μZ (some (.int rZ))) {v1 : Int32} {v2 : Int32} {v3 : Int32}  {K : Mem → Option (Int32 × Mem)} (hK : ∀  (μ : Mem), K μ = some (rZ, μZ) → Gd X 114 [(0, .ref (evA (xV X) 0)), (1, .int v1), (3, .int v3)] [] μ) : ∀ (n : Nat) (v4 : Int32) (μ : Mem), f_X10_same_L82 v1 v2 v3 K n v4 μ = some (rZ, μZ) → Gd X 82 [(0, .ref (evA (xV X) 0)), (1, .int v1), (2, .int v2), (3, .int v3), (4, .int v4)] [] μ := by
  intro n
  induction n with
  | zero => intro _ _ h; rw [f_X10_same_L82] at h; cases h
  | succ n ih =>
    intro v4 μ h
    rw [f_X10_same_L82] at h
    refine so_iload (pc := 82) hX dX10_same_82 4 rfl ?_
    refine so_bipush (v := (64 : Int32)) (pc := 84) hX dX10_same_84 (by decide) ?_
    refine so_icmp_ge (pc := 86) hX 114 dX10_same_86 (by decide) (fun hc17 => ?_) (fun hc17 => ?_)
    · have h := ip hc17 h
      refine so_sub (pc := 114) (lv' := [(0, .ref (evA (xV X) 0)), (1, .int v1), (3, .int v3)]) [0, 1, 3] rfl ?_
      exact hK _ h
    · have h := iq hc17 h
      refine so_aload_n (pc := 89) hX dX10_same_89 0 rfl ?_
      refine so_gR (pc := 90) hX 25 dX10_same_90 fl_X10_86 (ekM hL rfl) (erM hL rfl) ?_
      refine so_iload (pc := 93) hX dX10_same_93 4 rfl ?_
      refine so_aload_n (pc := 95) hX dX10_same_95 0 rfl ?_
      refine so_gR (pc := 96) hX 40 dX10_same_96 fl_X10_131 (ekM hL rfl) (erM hL rfl) ?_
      refine so_bipush (v := (64 : Int32)) (pc := 99) hX dX10_same_99 (by decide) ?_
      refine so_iload_n (pc := 101) hX dX10_same_101 2 rfl ?_
      refine so_imul (pc := 102) hX dX10_same_102 ?_
      refine so_iload (pc := 103) hX dX10_same_103 4 rfl ?_
      refine so_iadd (pc := 105) hX dX10_same_105 ?_
      obtain ⟨e18, hr, h⟩ := ob h
      refine so_iald (pc := 106) hX dX10_same_106 (ekM hL rfl) (elM hL rfl) hr ?_
      obtain ⟨μ19, hr, h⟩ := ob h
      refine so_iast (pc := 107) hX dX10_same_107 (ekM hL rfl) (elM hL rfl) hr ?_
      refine so_iinc (pc := 108) hX dX10_same_108 4 (1 : Int32) [(4, .int (v4 + (1 : Int32))), (0, .ref (evA (xV X) 0)), (1, .int v1), (2, .int v2), (3, .int v3)] rfl (by decide) (by rw [hn]; decide) rfl ?_
      refine so_goto (pc := 111) hX 82 dX10_same_111 (by decide) ?_
      refine so_sub (pc := 82) (lv' := [(0, .ref (evA (xV X) 0)), (1, .int v1), (2, .int v2), (3, .int v3), (4, .int (v4 + (1 : Int32)))]) [1, 2, 3, 4, 0] rfl ?_
      exact ih _ _ h
set_option maxHeartbeats 4000000 in
set_option maxRecDepth 100000 in
theorem g_X10_same_L148 {X : Cx} (hX : Fx X cX10_same RX10 1) (hL : (xV X).2.2.2 = lyM) (hn : xn X = 6) {rZ : Int32} {μZ : Mem} (hR : Rt X (some .int) μZ (some (.int rZ))) {v1 : Int32} {v4 : Int32}  {K : Mem → Option (Int32 × Mem)} (hK : ∀  (μ : Mem), K μ = some (rZ, μZ) → Gd X 190 [(0, .ref (evA (xV X) 0)), (1, .int v1), (4, .int v4)] [] μ) : ∀ (n : Nat) (v5 : Int32) (μ : Mem), f_X10_same_L148 v1 v4 K n v5 μ = some (rZ, μZ) → Gd X 148 [(0, .ref (evA (xV X) 0)), (1, .int v1), (4, .int v4), (5, .int v5)] [] μ := by
  intro n
  induction n with
  | zero => intro _ _ h; rw [f_X10_same_L148] at h; cases h
  | succ n ih =>
    intro v5 μ h
    rw [f_X10_same_L148] at h
    refine so_iload (pc := 148) hX dX10_same_148 3 rfl ?_
    refine so_aload_n (pc := 150) hX dX10_same_150 0 rfl ?_
    refine so_gI (pc := 151) hX dX10_same_151 fl_X10_236 (ekM hL rfl) ?_
    refine so_icmp_ge (pc := 154) hX 190 dX10_same_154 (by decide) (fun hc23 => ?_) (fun hc23 => ?_)
    · have h := ip hc23 h
      refine so_sub (pc := 190) (lv' := [(0, .ref (evA (xV X) 0)), (1, .int v1), (4, .int v4)]) [0, 1, 2] rfl ?_
      exact hK _ h
    · have h := iq hc23 h
      refine so_aload_n (pc := 157) hX dX10_same_157 0 rfl ?_
      refine so_gR (pc := 158) hX 25 dX10_same_158 fl_X10_86 (ekM hL rfl) (erM hL rfl) ?_
      refine so_bipush (v := (8 : Int32)) (pc := 161) hX dX10_same_161 (by decide) ?_
      refine so_iload (pc := 163) hX dX10_same_163 2 rfl ?_
      refine so_imul (pc := 165) hX dX10_same_165 ?_
      refine so_iload (pc := 166) hX dX10_same_166 3 rfl ?_
      refine so_iadd (pc := 168) hX dX10_same_168 ?_
      obtain ⟨e24, hr, h⟩ := ob h
      refine so_iald (pc := 169) hX dX10_same_169 (ekM hL rfl) (elM hL rfl) hr ?_
      refine so_aload_n (pc := 170) hX dX10_same_170 0 rfl ?_
      refine so_iload_n (pc := 171) hX dX10_same_171 1 rfl ?_
      refine so_iload (pc := 172) hX dX10_same_172 3 rfl ?_
      refine so_iload (pc := 174) hX dX10_same_174 2 rfl ?_
      obtain ⟨r26, μ25, hr, h⟩ := obd h
      refine so_callV (As := [.int v1, .int v5, .int v4]) (rest := [.int e24]) (pc := 176) hX dX10_same_176 (c_X10_pieceOf hL hr) mw_X10_pieceOf mv_X10_pieceOf ml_X10_279 (ekM hL rfl) (by decide) rfl rfl rfl rfl (by omega) (by decide) (Nat.le_of_ble_eq_true rfl) ?_
      refine so_icmp_eq (pc := 179) hX 184 dX10_same_179 (by decide) (fun hc27 => ?_) (fun hc27 => ?_)
      · have h := ip hc27 h
        refine so_iinc (pc := 184) hX dX10_same_184 3 (1 : Int32) [(5, .int (v5 + (1 : Int32))), (0, .ref (evA (xV X) 0)), (1, .int v1), (4, .int v4)] rfl (by decide) (by rw [hn]; decide) rfl ?_
        refine so_goto (pc := 187) hX 148 dX10_same_187 (by decide) ?_
        refine so_sub (pc := 148) (lv' := [(0, .ref (evA (xV X) 0)), (1, .int v1), (4, .int v4), (5, .int (v5 + (1 : Int32)))]) [1, 2, 3, 0] rfl ?_
        exact ih _ _ h
      · have h := iq hc27 h
        refine so_iconst (v := (0 : Int32)) (pc := 182) hX dX10_same_182 (by decide) ?_
        exact so_iretH (pc := 183) hX hR h rfl dX10_same_183
set_option maxHeartbeats 4000000 in
set_option maxRecDepth 100000 in
theorem g_X10_same_L136 {X : Cx} (hX : Fx X cX10_same RX10 1) (hL : (xV X).2.2.2 = lyM) (hn : xn X = 6) {rZ : Int32} {μZ : Mem} (hR : Rt X (some .int) μZ (some (.int rZ))) {v1 : Int32}  {K : Mem → Option (Int32 × Mem)} (hK : ∀  (μ : Mem), K μ = some (rZ, μZ) → Gd X 196 [] [] μ) : ∀ (n : Nat) (v4 : Int32) (μ : Mem), f_X10_same_L136 v1 K n v4 μ = some (rZ, μZ) → Gd X 136 [(0, .ref (evA (xV X) 0)), (1, .int v1), (4, .int v4)] [] μ := by
  intro n
  induction n with
  | zero => intro _ _ h; rw [f_X10_same_L136] at h; cases h
  | succ n ih =>
    intro v4 μ h
    rw [f_X10_same_L136] at h
    refine so_iload (pc := 136) hX dX10_same_136 2 rfl ?_
    refine so_aload_n (pc := 138) hX dX10_same_138 0 rfl ?_
    refine so_gI (pc := 139) hX dX10_same_139 fl_X10_233 (ekM hL rfl) ?_
    refine so_icmp_ge (pc := 142) hX 196 dX10_same_142 (by decide) (fun hc22 => ?_) (fun hc22 => ?_)
    · have h := ip hc22 h
      refine so_sub (pc := 196) (lv' := []) [] rfl ?_
      exact hK _ h
    · have h := iq hc22 h
      refine so_iconst (v := (0 : Int32)) (pc := 145) hX dX10_same_145 (by decide) ?_
      refine so_istore (pc := 146) hX dX10_same_146 [(5, .int (0 : Int32)), (0, .ref (evA (xV X) 0)), (1, .int v1), (4, .int v4)] (by rw [hn]; decide) rfl ?_
      refine so_sub (pc := 148) (lv' := [(0, .ref (evA (xV X) 0)), (1, .int v1), (4, .int v4), (5, .int (0 : Int32))]) [1, 2, 3, 0] rfl ?_
      refine g_X10_same_L148 hX hL hn hR (fun μ28 h => ?_) FU _ _ h
      refine so_iinc (pc := 190) hX dX10_same_190 2 (1 : Int32) [(4, .int (v4 + (1 : Int32))), (0, .ref (evA (xV X) 0)), (1, .int v1)] rfl (by decide) (by rw [hn]; decide) rfl ?_
      refine so_goto (pc := 193) hX 136 dX10_same_193 (by decide) ?_
      refine so_sub (pc := 136) (lv' := [(0, .ref (evA (xV X) 0)), (1, .int v1), (4, .int (v4 + (1 : Int32)))]) [1, 2, 0] rfl ?_
      exact ih _ _ h
set_option maxHeartbeats 4000000 in
set_option maxRecDepth 100000 in
theorem c_X10_same {l : Launch} {V : Ev} (hL : V.2.2.2 = lyM) {v1 : Int32} {v2 : Int32} {v3 : Int32}  {μ : Mem} {rZ : Int32} {μZ : Mem} (h : f_X10_same v1 v2 v3 μ = some (rZ, μZ)) : CT l V yX10_same cX10_same 6 (some .int) 1 [.ref (evA V 0), .int v1, .int v2, .int v3] μ μZ (some (.int rZ)) := by
  refine so_met [(0, .ref (evA V 0)), (1, .int v1), (2, .int v2), (3, .int v3)] (by decide) (Nat.le_of_ble_eq_true rfl) (evMn hL) rfl ?_
  intro X hl hV hn hX hR
  subst hl hV
  unfold f_X10_same at h
  refine so_aload_n (pc := 0) hX dX10_same_0 0 rfl ?_
  refine so_iload_n (pc := 1) hX dX10_same_1 1 rfl ?_
  obtain ⟨r2, μ1, hr, h⟩ := obd h
  refine so_callV (As := [.int v1]) (rest := []) (pc := 2) hX dX10_same_2 (c_X10_isDoor hL hr) mw_X10_isDoor mv_X10_isDoor ml_X10_276 (ekM hL rfl) (by decide) rfl rfl rfl rfl (by omega) (by decide) (Nat.le_of_ble_eq_true rfl) ?_
  refine so_if_eq (pc := 5) hX 25 dX10_same_5 (by decide) (fun hc3 => ?_) (fun hc3 => ?_)
  · have h := ip hc3 h
    refine so_iconst (v := (-1 : Int32)) (pc := 25) hX dX10_same_25 (by decide) ?_
    exact so_iretH (pc := 26) hX hR h rfl dX10_same_26
  · have h := iq hc3 h
    refine so_aload_n (pc := 8) hX dX10_same_8 0 rfl ?_
    refine so_iload_n (pc := 9) hX dX10_same_9 2 rfl ?_
    obtain ⟨r5, μ4, hr, h⟩ := obd h
    refine so_callV (As := [.int v2]) (rest := []) (pc := 10) hX dX10_same_10 (c_X10_isDoor hL hr) mw_X10_isDoor mv_X10_isDoor ml_X10_276 (ekM hL rfl) (by decide) rfl rfl rfl rfl (by omega) (by decide) (Nat.le_of_ble_eq_true rfl) ?_
    refine so_if_eq (pc := 13) hX 25 dX10_same_13 (by decide) (fun hc6 => ?_) (fun hc6 => ?_)
    · have h := ip hc6 h
      refine so_iconst (v := (-1 : Int32)) (pc := 25) hX dX10_same_25 (by decide) ?_
      exact so_iretH (pc := 26) hX hR h rfl dX10_same_26
    · have h := iq hc6 h
      refine so_iload_n (pc := 16) hX dX10_same_16 3 rfl ?_
      refine so_if_lt (pc := 17) hX 25 dX10_same_17 (by decide) (fun hc7 => ?_) (fun hc7 => ?_)
      · have h := ip hc7 h
        refine so_iconst (v := (-1 : Int32)) (pc := 25) hX dX10_same_25 (by decide) ?_
        exact so_iretH (pc := 26) hX hR h rfl dX10_same_26
      · have h := iq hc7 h
        refine so_iload_n (pc := 20) hX dX10_same_20 3 rfl ?_
        refine so_iconst (v := (2 : Int32)) (pc := 21) hX dX10_same_21 (by decide) ?_
        refine so_icmp_le (pc := 22) hX 27 dX10_same_22 (by decide) (fun hc8 => ?_) (fun hc8 => ?_)
        · have h := ip hc8 h
          refine so_aload_n (pc := 27) hX dX10_same_27 0 rfl ?_
          refine so_gR (pc := 28) hX 38 dX10_same_28 fl_X10_125 (ekM hL rfl) (erM hL rfl) ?_
          refine so_iload_n (pc := 31) hX dX10_same_31 1 rfl ?_
          obtain ⟨e9, hr, h⟩ := ob h
          refine so_iald (pc := 32) hX dX10_same_32 (ekM hL rfl) (elM hL rfl) hr ?_
          refine so_aload_n (pc := 33) hX dX10_same_33 0 rfl ?_
          refine so_gR (pc := 34) hX 38 dX10_same_34 fl_X10_125 (ekM hL rfl) (erM hL rfl) ?_
          refine so_iload_n (pc := 37) hX dX10_same_37 2 rfl ?_
          obtain ⟨e10, hr, h⟩ := ob h
          refine so_iald (pc := 38) hX dX10_same_38 (ekM hL rfl) (elM hL rfl) hr ?_
          refine so_icmp_ne (pc := 39) hX 57 dX10_same_39 (by decide) (fun hc11 => ?_) (fun hc11 => ?_)
          · have h := iq hc11 h
            refine so_iconst (v := (0 : Int32)) (pc := 57) hX dX10_same_57 (by decide) ?_
            exact so_iretH (pc := 58) hX hR h rfl dX10_same_58
          · have h := ip hc11 h
            refine so_aload_n (pc := 42) hX dX10_same_42 0 rfl ?_
            refine so_gR (pc := 43) hX 39 dX10_same_43 fl_X10_128 (ekM hL rfl) (erM hL rfl) ?_
            refine so_iload_n (pc := 46) hX dX10_same_46 1 rfl ?_
            obtain ⟨e12, hr, h⟩ := ob h
            refine so_iald (pc := 47) hX dX10_same_47 (ekM hL rfl) (elM hL rfl) hr ?_
            refine so_aload_n (pc := 48) hX dX10_same_48 0 rfl ?_
            refine so_gR (pc := 49) hX 39 dX10_same_49 fl_X10_128 (ekM hL rfl) (erM hL rfl) ?_
            refine so_iload_n (pc := 52) hX dX10_same_52 2 rfl ?_
            obtain ⟨e13, hr, h⟩ := ob h
            refine so_iald (pc := 53) hX dX10_same_53 (ekM hL rfl) (elM hL rfl) hr ?_
            refine so_icmp_eq (pc := 54) hX 59 dX10_same_54 (by decide) (fun hc14 => ?_) (fun hc14 => ?_)
            · have h := ip hc14 h
              refine so_aload_n (pc := 59) hX dX10_same_59 0 rfl ?_
              refine so_aload_n (pc := 60) hX dX10_same_60 0 rfl ?_
              refine so_gR (pc := 61) hX 38 dX10_same_61 fl_X10_125 (ekM hL rfl) (erM hL rfl) ?_
              refine so_iload_n (pc := 64) hX dX10_same_64 2 rfl ?_
              obtain ⟨e15, hr, h⟩ := ob h
              refine so_iald (pc := 65) hX dX10_same_65 (ekM hL rfl) (elM hL rfl) hr ?_
              refine so_pI (pc := 66) hX dX10_same_66 fl_X10_236 fw_10_32 (ekM hL rfl) rfl rfl ?_
              refine so_aload_n (pc := 69) hX dX10_same_69 0 rfl ?_
              refine so_aload_n (pc := 70) hX dX10_same_70 0 rfl ?_
              refine so_gR (pc := 71) hX 39 dX10_same_71 fl_X10_128 (ekM hL rfl) (erM hL rfl) ?_
              refine so_iload_n (pc := 74) hX dX10_same_74 2 rfl ?_
              obtain ⟨e16, hr, h⟩ := ob h
              refine so_iald (pc := 75) hX dX10_same_75 (ekM hL rfl) (elM hL rfl) hr ?_
              refine so_pI (pc := 76) hX dX10_same_76 fl_X10_233 fw_10_33 (ekM hL rfl) rfl rfl ?_
              refine so_iconst (v := (0 : Int32)) (pc := 79) hX dX10_same_79 (by decide) ?_
              refine so_istore (pc := 80) hX dX10_same_80 [(4, .int (0 : Int32)), (0, .ref (evA (xV X) 0)), (1, .int v1), (2, .int v2), (3, .int v3)] (by rw [hn]; decide) rfl ?_
              refine so_sub (pc := 82) (lv' := [(0, .ref (evA (xV X) 0)), (1, .int v1), (2, .int v2), (3, .int v3), (4, .int (0 : Int32))]) [1, 2, 3, 4, 0] rfl ?_
              refine g_X10_same_L82 hX hL hn hR (fun μ20 h => ?_) FU _ _ h
              refine so_iload_n (pc := 114) hX dX10_same_114 2 rfl ?_
              refine so_if_le (pc := 115) hX 133 dX10_same_115 (by decide) (fun hc21 => ?_) (fun hc21 => ?_)
              · have h := ip hc21 h
                refine so_iconst (v := (0 : Int32)) (pc := 133) hX dX10_same_133 (by decide) ?_
                refine so_istore (pc := 134) hX dX10_same_134 [(4, .int (0 : Int32)), (0, .ref (evA (xV X) 0)), (1, .int v1), (3, .int v3)] (by rw [hn]; decide) rfl ?_
                refine so_sub (pc := 136) (lv' := [(0, .ref (evA (xV X) 0)), (1, .int v1), (4, .int (0 : Int32))]) [1, 2, 0] rfl ?_
                refine g_X10_same_L136 hX hL hn hR (fun μ29 h => ?_) FU _ _ h
                refine so_iconst (v := (1 : Int32)) (pc := 196) hX dX10_same_196 (by decide) ?_
                exact so_iretH (pc := 197) hX hR h rfl dX10_same_197
              · have h := iq hc21 h
                refine so_aload_n (pc := 118) hX dX10_same_118 0 rfl ?_
                refine so_iconst (v := (1 : Int32)) (pc := 119) hX dX10_same_119 (by decide) ?_
                refine so_iload_n (pc := 120) hX dX10_same_120 2 rfl ?_
                refine so_iconst (v := (2 : Int32)) (pc := 121) hX dX10_same_121 (by decide) ?_
                refine so_icmp_ne (pc := 122) hX 129 dX10_same_122 (by decide) (fun hc30 => ?_) (fun hc30 => ?_)
                · have h := iq hc30 h
                  refine so_iconst (v := (0 : Int32)) (pc := 129) hX dX10_same_129 (by decide) ?_
                  obtain ⟨μ33, hr, h⟩ := ob h
                  refine so_callV (As := [.int (1 : Int32), .int (0 : Int32)]) (rest := []) (pc := 130) hX dX10_same_130 (c_X10_turns hL hr) mw_X10_turns mv_X10_turns ml_X10_242 (ekM hL rfl) (by decide) rfl rfl rfl rfl (by omega) (by decide) (Nat.le_of_ble_eq_true rfl) ?_
                  refine so_iconst (v := (0 : Int32)) (pc := 133) hX dX10_same_133 (by decide) ?_
                  refine so_istore (pc := 134) hX dX10_same_134 [(4, .int (0 : Int32)), (0, .ref (evA (xV X) 0)), (1, .int v1), (3, .int v3)] (by rw [hn]; decide) rfl ?_
                  refine so_sub (pc := 136) (lv' := [(0, .ref (evA (xV X) 0)), (1, .int v1), (4, .int (0 : Int32))]) [1, 2, 0] rfl ?_
                  refine g_X10_same_L136 hX hL hn hR (fun μ34 h => ?_) FU _ _ h
                  refine so_iconst (v := (1 : Int32)) (pc := 196) hX dX10_same_196 (by decide) ?_
                  exact so_iretH (pc := 197) hX hR h rfl dX10_same_197
                · have h := ip hc30 h
                  refine so_iconst (v := (1 : Int32)) (pc := 125) hX dX10_same_125 (by decide) ?_
                  refine so_goto (pc := 126) hX 130 dX10_same_126 (by decide) ?_
                  obtain ⟨μ31, hr, h⟩ := ob h
                  refine so_callV (As := [.int (1 : Int32), .int (1 : Int32)]) (rest := []) (pc := 130) hX dX10_same_130 (c_X10_turns hL hr) mw_X10_turns mv_X10_turns ml_X10_242 (ekM hL rfl) (by decide) rfl rfl rfl rfl (by omega) (by decide) (Nat.le_of_ble_eq_true rfl) ?_
                  refine so_iconst (v := (0 : Int32)) (pc := 133) hX dX10_same_133 (by decide) ?_
                  refine so_istore (pc := 134) hX dX10_same_134 [(4, .int (0 : Int32)), (0, .ref (evA (xV X) 0)), (1, .int v1), (3, .int v3)] (by rw [hn]; decide) rfl ?_
                  refine so_sub (pc := 136) (lv' := [(0, .ref (evA (xV X) 0)), (1, .int v1), (4, .int (0 : Int32))]) [1, 2, 0] rfl ?_
                  refine g_X10_same_L136 hX hL hn hR (fun μ32 h => ?_) FU _ _ h
                  refine so_iconst (v := (1 : Int32)) (pc := 196) hX dX10_same_196 (by decide) ?_
                  exact so_iretH (pc := 197) hX hR h rfl dX10_same_197
            · have h := iq hc14 h
              refine so_iconst (v := (0 : Int32)) (pc := 57) hX dX10_same_57 (by decide) ?_
              exact so_iretH (pc := 58) hX hR h rfl dX10_same_58
        · have h := iq hc8 h
          refine so_iconst (v := (-1 : Int32)) (pc := 25) hX dX10_same_25 (by decide) ?_
          exact so_iretH (pc := 26) hX hR h rfl dX10_same_26
set_option maxHeartbeats 4000000 in
set_option maxRecDepth 100000 in
theorem g_X10_counts_L2 {X : Cx} (hX : Fx X cX10_counts RX10 1) (hL : (xV X).2.2.2 = lyM) (hn : xn X = 4) {μZ : Mem} (hR : Rt X none μZ none) {v1 : Int32}  {K : Mem → Option (Mem)} (hK : ∀  (μ : Mem), K μ = some μZ → Gd X 21 [(0, .ref (evA (xV X) 0)), (1, .int v1)] [] μ) : ∀ (n : Nat) (v2 : Int32) (μ : Mem), f_X10_counts_L2 v1 K n v2 μ = some μZ → Gd X 2 [(0, .ref (evA (xV X) 0)), (1, .int v1), (2, .int v2)] [] μ := by
  intro n
  induction n with
  | zero => intro _ _ h; rw [f_X10_counts_L2] at h; cases h
  | succ n ih =>
    intro v2 μ h
    rw [f_X10_counts_L2] at h
    refine so_iload_n (pc := 2) hX dX10_counts_2 2 rfl ?_
    refine so_bipush (v := (10 : Int32)) (pc := 3) hX dX10_counts_3 (by decide) ?_
    refine so_icmp_ge (pc := 5) hX 21 dX10_counts_5 (by decide) (fun hc1 => ?_) (fun hc1 => ?_)
    · have h := ip hc1 h
      refine so_sub (pc := 21) (lv' := [(0, .ref (evA (xV X) 0)), (1, .int v1)]) [0, 1] rfl ?_
      exact hK _ h
    · have h := iq hc1 h
      refine so_aload_n (pc := 8) hX dX10_counts_8 0 rfl ?_
      refine so_gR (pc := 9) hX 48 dX10_counts_9 fl_X10_155 (ekM hL rfl) (erM hL rfl) ?_
      refine so_iload_n (pc := 12) hX dX10_counts_12 2 rfl ?_
      refine so_iconst (v := (0 : Int32)) (pc := 13) hX dX10_counts_13 (by decide) ?_
      obtain ⟨μ2, hr, h⟩ := ob h
      refine so_iast (pc := 14) hX dX10_counts_14 (ekM hL rfl) (elM hL rfl) hr ?_
      refine so_iinc (pc := 15) hX dX10_counts_15 2 (1 : Int32) [(2, .int (v2 + (1 : Int32))), (0, .ref (evA (xV X) 0)), (1, .int v1)] rfl (by decide) (by rw [hn]; decide) rfl ?_
      refine so_goto (pc := 18) hX 2 dX10_counts_18 (by decide) ?_
      refine so_sub (pc := 2) (lv' := [(0, .ref (evA (xV X) 0)), (1, .int v1), (2, .int (v2 + (1 : Int32)))]) [1, 2, 0] rfl ?_
      exact ih _ _ h
set_option maxHeartbeats 4000000 in
set_option maxRecDepth 100000 in
theorem g_X10_counts_L35 {X : Cx} (hX : Fx X cX10_counts RX10 1) (hL : (xV X).2.2.2 = lyM) (hn : xn X = 4) {μZ : Mem} (hR : Rt X none μZ none) {v1 : Int32} {v2 : Int32}  {K : Mem → Option (Mem)} (hK : ∀  (μ : Mem), K μ = some μZ → Gd X 70 [(0, .ref (evA (xV X) 0)), (1, .int v1), (2, .int v2)] [] μ) : ∀ (n : Nat) (v3 : Int32) (μ : Mem), f_X10_counts_L35 v1 v2 K n v3 μ = some μZ → Gd X 35 [(0, .ref (evA (xV X) 0)), (1, .int v1), (2, .int v2), (3, .int v3)] [] μ := by
  intro n
  induction n with
  | zero => intro _ _ h; rw [f_X10_counts_L35] at h; cases h
  | succ n ih =>
    intro v3 μ h
    rw [f_X10_counts_L35] at h
    refine so_iload_n (pc := 35) hX dX10_counts_35 3 rfl ?_
    refine so_aload_n (pc := 36) hX dX10_counts_36 0 rfl ?_
    refine so_gR (pc := 37) hX 38 dX10_counts_37 fl_X10_125 (ekM hL rfl) (erM hL rfl) ?_
    refine so_iload_n (pc := 40) hX dX10_counts_40 1 rfl ?_
    obtain ⟨e6, hr, h⟩ := ob h
    refine so_iald (pc := 41) hX dX10_counts_41 (ekM hL rfl) (elM hL rfl) hr ?_
    refine so_icmp_ge (pc := 42) hX 70 dX10_counts_42 (by decide) (fun hc7 => ?_) (fun hc7 => ?_)
    · have h := ip hc7 h
      refine so_sub (pc := 70) (lv' := [(0, .ref (evA (xV X) 0)), (1, .int v1), (2, .int v2)]) [0, 1, 2] rfl ?_
      exact hK _ h
    · have h := iq hc7 h
      refine so_aload_n (pc := 45) hX dX10_counts_45 0 rfl ?_
      refine so_gR (pc := 46) hX 48 dX10_counts_46 fl_X10_155 (ekM hL rfl) (erM hL rfl) ?_
      refine so_aload_n (pc := 49) hX dX10_counts_49 0 rfl ?_
      refine so_iload_n (pc := 50) hX dX10_counts_50 1 rfl ?_
      refine so_iload_n (pc := 51) hX dX10_counts_51 3 rfl ?_
      refine so_iload_n (pc := 52) hX dX10_counts_52 2 rfl ?_
      obtain ⟨r9, μ8, hr, h⟩ := obd h
      refine so_callV (As := [.int v1, .int v3, .int v2]) (rest := [.ref (evA (xV X) 48)]) (pc := 53) hX dX10_counts_53 (c_X10_pieceOf hL hr) mw_X10_pieceOf mv_X10_pieceOf ml_X10_279 (ekM hL rfl) (by decide) rfl rfl rfl rfl (by omega) (by decide) (Nat.le_of_ble_eq_true rfl) ?_
      refine so_bipush (v := (15 : Int32)) (pc := 56) hX dX10_counts_56 (by decide) ?_
      refine so_iand (pc := 58) hX dX10_counts_58 ?_
      refine so_dup2 (pc := 59) hX dX10_counts_59 rfl rfl ?_
      obtain ⟨e10, hr, h⟩ := ob h
      refine so_iald (pc := 60) hX dX10_counts_60 (ekM hL rfl) (elM hL rfl) hr ?_
      refine so_iconst (v := (1 : Int32)) (pc := 61) hX dX10_counts_61 (by decide) ?_
      refine so_iadd (pc := 62) hX dX10_counts_62 ?_
      obtain ⟨μ11, hr, h⟩ := ob h
      refine so_iast (pc := 63) hX dX10_counts_63 (ekM hL rfl) (elM hL rfl) hr ?_
      refine so_iinc (pc := 64) hX dX10_counts_64 3 (1 : Int32) [(3, .int (v3 + (1 : Int32))), (0, .ref (evA (xV X) 0)), (1, .int v1), (2, .int v2)] rfl (by decide) (by rw [hn]; decide) rfl ?_
      refine so_goto (pc := 67) hX 35 dX10_counts_67 (by decide) ?_
      refine so_sub (pc := 35) (lv' := [(0, .ref (evA (xV X) 0)), (1, .int v1), (2, .int v2), (3, .int (v3 + (1 : Int32)))]) [1, 2, 3, 0] rfl ?_
      exact ih _ _ h
set_option maxHeartbeats 4000000 in
set_option maxRecDepth 100000 in
theorem g_X10_counts_L23 {X : Cx} (hX : Fx X cX10_counts RX10 1) (hL : (xV X).2.2.2 = lyM) (hn : xn X = 4) {μZ : Mem} (hR : Rt X none μZ none) {v1 : Int32}  {K : Mem → Option (Mem)} (hK : ∀  (μ : Mem), K μ = some μZ → Gd X 76 [] [] μ) : ∀ (n : Nat) (v2 : Int32) (μ : Mem), f_X10_counts_L23 v1 K n v2 μ = some μZ → Gd X 23 [(0, .ref (evA (xV X) 0)), (1, .int v1), (2, .int v2)] [] μ := by
  intro n
  induction n with
  | zero => intro _ _ h; rw [f_X10_counts_L23] at h; cases h
  | succ n ih =>
    intro v2 μ h
    rw [f_X10_counts_L23] at h
    refine so_iload_n (pc := 23) hX dX10_counts_23 2 rfl ?_
    refine so_aload_n (pc := 24) hX dX10_counts_24 0 rfl ?_
    refine so_gR (pc := 25) hX 39 dX10_counts_25 fl_X10_128 (ekM hL rfl) (erM hL rfl) ?_
    refine so_iload_n (pc := 28) hX dX10_counts_28 1 rfl ?_
    obtain ⟨e4, hr, h⟩ := ob h
    refine so_iald (pc := 29) hX dX10_counts_29 (ekM hL rfl) (elM hL rfl) hr ?_
    refine so_icmp_ge (pc := 30) hX 76 dX10_counts_30 (by decide) (fun hc5 => ?_) (fun hc5 => ?_)
    · have h := ip hc5 h
      refine so_sub (pc := 76) (lv' := []) [] rfl ?_
      exact hK _ h
    · have h := iq hc5 h
      refine so_iconst (v := (0 : Int32)) (pc := 33) hX dX10_counts_33 (by decide) ?_
      refine so_istore_n (pc := 34) hX dX10_counts_34 [(3, .int (0 : Int32)), (0, .ref (evA (xV X) 0)), (1, .int v1), (2, .int v2)] (by rw [hn]; decide) rfl ?_
      refine so_sub (pc := 35) (lv' := [(0, .ref (evA (xV X) 0)), (1, .int v1), (2, .int v2), (3, .int (0 : Int32))]) [1, 2, 3, 0] rfl ?_
      refine g_X10_counts_L35 hX hL hn hR (fun μ12 h => ?_) FU _ _ h
      refine so_iinc (pc := 70) hX dX10_counts_70 2 (1 : Int32) [(2, .int (v2 + (1 : Int32))), (0, .ref (evA (xV X) 0)), (1, .int v1)] rfl (by decide) (by rw [hn]; decide) rfl ?_
      refine so_goto (pc := 73) hX 23 dX10_counts_73 (by decide) ?_
      refine so_sub (pc := 23) (lv' := [(0, .ref (evA (xV X) 0)), (1, .int v1), (2, .int (v2 + (1 : Int32)))]) [1, 2, 0] rfl ?_
      exact ih _ _ h
set_option maxHeartbeats 4000000 in
set_option maxRecDepth 100000 in
theorem c_X10_counts {l : Launch} {V : Ev} (hL : V.2.2.2 = lyM) {v1 : Int32}  {μ : Mem} {μZ : Mem} (h : f_X10_counts v1 μ = some μZ) : CT l V yX10_counts cX10_counts 4 none 1 [.ref (evA V 0), .int v1] μ μZ none := by
  refine so_met [(0, .ref (evA V 0)), (1, .int v1)] (by decide) (Nat.le_of_ble_eq_true rfl) (evMn hL) rfl ?_
  intro X hl hV hn hX hR
  subst hl hV
  unfold f_X10_counts at h
  refine so_iconst (v := (0 : Int32)) (pc := 0) hX dX10_counts_0 (by decide) ?_
  refine so_istore_n (pc := 1) hX dX10_counts_1 [(2, .int (0 : Int32)), (0, .ref (evA (xV X) 0)), (1, .int v1)] (by rw [hn]; decide) rfl ?_
  refine so_sub (pc := 2) (lv' := [(0, .ref (evA (xV X) 0)), (1, .int v1), (2, .int (0 : Int32))]) [1, 2, 0] rfl ?_
  refine g_X10_counts_L2 hX hL hn hR (fun μ3 h => ?_) FU _ _ h
  refine so_iconst (v := (0 : Int32)) (pc := 21) hX dX10_counts_21 (by decide) ?_
  refine so_istore_n (pc := 22) hX dX10_counts_22 [(2, .int (0 : Int32)), (0, .ref (evA (xV X) 0)), (1, .int v1)] (by rw [hn]; decide) rfl ?_
  refine so_sub (pc := 23) (lv' := [(0, .ref (evA (xV X) 0)), (1, .int v1), (2, .int (0 : Int32))]) [1, 2, 0] rfl ?_
  refine g_X10_counts_L23 hX hL hn hR (fun μ13 h => ?_) FU _ _ h
  exact so_vretH (pc := 76) hX hR h dX10_counts_76
set_option maxHeartbeats 4000000 in
set_option maxRecDepth 100000 in
theorem g_X10_hasTones_L12 {X : Cx} (hX : Fx X cX10_hasTones RX10 1) (hL : (xV X).2.2.2 = lyM) (hn : xn X = 9) {rZ : Int32} {μZ : Mem} (hR : Rt X (some .boolean) μZ (some (.int rZ))) {v1 : Int32} {v2 : Int32} {v3 : Int32}  {K : Int32 → Int32 → Mem → Option (Int32 × Mem)} (hK : ∀ (v4 : Int32) (v5 : Int32) (μ : Mem), K v4 v5 μ = some (rZ, μZ) → Gd X 84 [(0, .ref (evA (xV X) 0)), (1, .int v1), (4, .int v4), (5, .int v5)] [] μ) : ∀ (n : Nat) (v4 : Int32) (v5 : Int32) (v6 : Int32) (v7 : Int32) (μ : Mem), f_X10_hasTones_L12 v1 v2 v3 K n v4 v5 v6 v7 μ = some (rZ, μZ) → Gd X 12 [(0, .ref (evA (xV X) 0)), (1, .int v1), (2, .int v2), (3, .int v3), (4, .int v4), (5, .int v5), (6, .int v6), (7, .int v7)] [] μ := by
  intro n
  induction n with
  | zero => intro _ _ _ _ _ h; rw [f_X10_hasTones_L12] at h; cases h
  | succ n ih =>
    intro v4 v5 v6 v7 μ h
    rw [f_X10_hasTones_L12] at h
    refine so_iload (pc := 12) hX dX10_hasTones_12 7 rfl ?_
    refine so_bipush (v := (10 : Int32)) (pc := 14) hX dX10_hasTones_14 (by decide) ?_
    refine so_icmp_ge (pc := 16) hX 84 dX10_hasTones_16 (by decide) (fun hc1 => ?_) (fun hc1 => ?_)
    · have h := ip hc1 h
      refine so_sub (pc := 84) (lv' := [(0, .ref (evA (xV X) 0)), (1, .int v1), (4, .int v4), (5, .int v5)]) [0, 1, 4, 5] rfl ?_
      exact hK _ _ _ h
    · have h := iq hc1 h
      refine so_aload_n (pc := 19) hX dX10_hasTones_19 0 rfl ?_
      refine so_gR (pc := 20) hX 48 dX10_hasTones_20 fl_X10_155 (ekM hL rfl) (erM hL rfl) ?_
      refine so_iload (pc := 23) hX dX10_hasTones_23 7 rfl ?_
      obtain ⟨e2, hr, h⟩ := ob h
      refine so_iald (pc := 25) hX dX10_hasTones_25 (ekM hL rfl) (elM hL rfl) hr ?_
      refine so_if_ne (pc := 26) hX 32 dX10_hasTones_26 (by decide) (fun hc3 => ?_) (fun hc3 => ?_)
      · have h := iq hc3 h
        refine so_aload_n (pc := 32) hX dX10_hasTones_32 0 rfl ?_
        refine so_iload_n (pc := 33) hX dX10_hasTones_33 2 rfl ?_
        refine so_iload_n (pc := 34) hX dX10_hasTones_34 3 rfl ?_
        refine so_iload (pc := 35) hX dX10_hasTones_35 7 rfl ?_
        refine so_iadd (pc := 37) hX dX10_hasTones_37 ?_
        obtain ⟨r5, μ4, hr, h⟩ := obd h
        refine so_callV (As := [.int v2, .int (v3 + v7)]) (rest := []) (pc := 38) hX dX10_hasTones_38 (c_X10_toneOf hL hr) mw_X10_toneOf mv_X10_toneOf ml_X10_194 (ekM hL rfl) (by decide) rfl rfl rfl rfl (by omega) (by decide) (Nat.le_of_ble_eq_true rfl) ?_
        refine so_istore (pc := 41) hX dX10_hasTones_41 [(8, .int r5), (0, .ref (evA (xV X) 0)), (1, .int v1), (2, .int v2), (3, .int v3), (4, .int v4), (5, .int v5), (6, .int v6), (7, .int v7)] (by rw [hn]; decide) rfl ?_
        refine so_iload (pc := 43) hX dX10_hasTones_43 7 rfl ?_
        refine so_if_eq (pc := 45) hX 55 dX10_hasTones_45 (by decide) (fun hc6 => ?_) (fun hc6 => ?_)
        · have h := ip hc6 h
          refine so_iload (pc := 55) hX dX10_hasTones_55 0 rfl ?_
          refine so_istore (pc := 57) hX dX10_hasTones_57 [(4, .int r5), (8, .int r5), (0, .ref (evA (xV X) 0)), (1, .int v1), (2, .int v2), (3, .int v3), (5, .int v5), (6, .int v6), (7, .int v7)] (by rw [hn]; decide) rfl ?_
          refine so_iload (pc := 59) hX dX10_hasTones_59 7 rfl ?_
          refine so_if_eq (pc := 61) hX 71 dX10_hasTones_61 (by decide) (fun _ => ?_) (fun hz => absurd hc6 hz)
          refine so_iload (pc := 71) hX dX10_hasTones_71 1 rfl ?_
          refine so_istore (pc := 73) hX dX10_hasTones_73 [(5, .int r5), (4, .int r5), (8, .int r5), (0, .ref (evA (xV X) 0)), (1, .int v1), (2, .int v2), (3, .int v3), (6, .int v6), (7, .int v7)] (by rw [hn]; decide) rfl ?_
          refine so_iconst (v := (1 : Int32)) (pc := 75) hX dX10_hasTones_75 (by decide) ?_
          refine so_istore (pc := 76) hX dX10_hasTones_76 [(6, .int (1 : Int32)), (5, .int r5), (4, .int r5), (8, .int r5), (0, .ref (evA (xV X) 0)), (1, .int v1), (2, .int v2), (3, .int v3), (7, .int v7)] (by rw [hn]; decide) rfl ?_
          refine so_iinc (pc := 78) hX dX10_hasTones_78 8 (1 : Int32) [(7, .int (v7 + (1 : Int32))), (6, .int (1 : Int32)), (5, .int r5), (4, .int r5), (8, .int r5), (0, .ref (evA (xV X) 0)), (1, .int v1), (2, .int v2), (3, .int v3)] rfl (by decide) (by rw [hn]; decide) rfl ?_
          refine so_goto (pc := 81) hX 12 dX10_hasTones_81 (by decide) ?_
          refine so_sub (pc := 12) (lv' := [(0, .ref (evA (xV X) 0)), (1, .int v1), (2, .int v2), (3, .int v3), (4, .int r5), (5, .int r5), (6, .int (1 : Int32)), (7, .int (v7 + (1 : Int32)))]) [5, 6, 7, 8, 3, 2, 1, 0] rfl ?_
          exact ih _ _ _ _ _ h
        · have h := iq hc6 h
          refine so_iload (pc := 48) hX dX10_hasTones_48 0 rfl ?_
          refine so_iload (pc := 50) hX dX10_hasTones_50 5 rfl ?_
          refine so_icmp_ge (pc := 52) hX 59 dX10_hasTones_52 (by decide) (fun hc7 => ?_) (fun hc7 => ?_)
          · have h := ip hc7 h
            refine so_iload (pc := 59) hX dX10_hasTones_59 7 rfl ?_
            refine so_if_eq (pc := 61) hX 71 dX10_hasTones_61 (by decide) (fun hz => absurd hz hc6) (fun _ => ?_)
            refine so_iload (pc := 64) hX dX10_hasTones_64 0 rfl ?_
            refine so_iload (pc := 66) hX dX10_hasTones_66 6 rfl ?_
            refine so_icmp_le (pc := 68) hX 75 dX10_hasTones_68 (by decide) (fun hc8 => ?_) (fun hc8 => ?_)
            · have h := ip hc8 h
              refine so_iconst (v := (1 : Int32)) (pc := 75) hX dX10_hasTones_75 (by decide) ?_
              refine so_istore (pc := 76) hX dX10_hasTones_76 [(6, .int (1 : Int32)), (8, .int r5), (0, .ref (evA (xV X) 0)), (1, .int v1), (2, .int v2), (3, .int v3), (4, .int v4), (5, .int v5), (7, .int v7)] (by rw [hn]; decide) rfl ?_
              refine so_iinc (pc := 78) hX dX10_hasTones_78 8 (1 : Int32) [(7, .int (v7 + (1 : Int32))), (6, .int (1 : Int32)), (8, .int r5), (0, .ref (evA (xV X) 0)), (1, .int v1), (2, .int v2), (3, .int v3), (4, .int v4), (5, .int v5)] rfl (by decide) (by rw [hn]; decide) rfl ?_
              refine so_goto (pc := 81) hX 12 dX10_hasTones_81 (by decide) ?_
              refine so_sub (pc := 12) (lv' := [(0, .ref (evA (xV X) 0)), (1, .int v1), (2, .int v2), (3, .int v3), (4, .int v4), (5, .int v5), (6, .int (1 : Int32)), (7, .int (v7 + (1 : Int32)))]) [3, 4, 5, 6, 7, 8, 1, 0] rfl ?_
              exact ih _ _ _ _ _ h
            · have h := iq hc8 h
              refine so_iload (pc := 71) hX dX10_hasTones_71 0 rfl ?_
              refine so_istore (pc := 73) hX dX10_hasTones_73 [(5, .int r5), (8, .int r5), (0, .ref (evA (xV X) 0)), (1, .int v1), (2, .int v2), (3, .int v3), (4, .int v4), (6, .int v6), (7, .int v7)] (by rw [hn]; decide) rfl ?_
              refine so_iconst (v := (1 : Int32)) (pc := 75) hX dX10_hasTones_75 (by decide) ?_
              refine so_istore (pc := 76) hX dX10_hasTones_76 [(6, .int (1 : Int32)), (5, .int r5), (8, .int r5), (0, .ref (evA (xV X) 0)), (1, .int v1), (2, .int v2), (3, .int v3), (4, .int v4), (7, .int v7)] (by rw [hn]; decide) rfl ?_
              refine so_iinc (pc := 78) hX dX10_hasTones_78 8 (1 : Int32) [(7, .int (v7 + (1 : Int32))), (6, .int (1 : Int32)), (5, .int r5), (8, .int r5), (0, .ref (evA (xV X) 0)), (1, .int v1), (2, .int v2), (3, .int v3), (4, .int v4)] rfl (by decide) (by rw [hn]; decide) rfl ?_
              refine so_goto (pc := 81) hX 12 dX10_hasTones_81 (by decide) ?_
              refine so_sub (pc := 12) (lv' := [(0, .ref (evA (xV X) 0)), (1, .int v1), (2, .int v2), (3, .int v3), (4, .int v4), (5, .int r5), (6, .int (1 : Int32)), (7, .int (v7 + (1 : Int32)))]) [4, 5, 6, 7, 8, 2, 1, 0] rfl ?_
              exact ih _ _ _ _ _ h
          · have h := iq hc7 h
            refine so_iload (pc := 55) hX dX10_hasTones_55 0 rfl ?_
            refine so_istore (pc := 57) hX dX10_hasTones_57 [(4, .int r5), (8, .int r5), (0, .ref (evA (xV X) 0)), (1, .int v1), (2, .int v2), (3, .int v3), (5, .int v5), (6, .int v6), (7, .int v7)] (by rw [hn]; decide) rfl ?_
            refine so_iload (pc := 59) hX dX10_hasTones_59 7 rfl ?_
            refine so_if_eq (pc := 61) hX 71 dX10_hasTones_61 (by decide) (fun hz => absurd hz hc6) (fun _ => ?_)
            refine so_iload (pc := 64) hX dX10_hasTones_64 1 rfl ?_
            refine so_iload (pc := 66) hX dX10_hasTones_66 6 rfl ?_
            refine so_icmp_le (pc := 68) hX 75 dX10_hasTones_68 (by decide) (fun hc9 => ?_) (fun hc9 => ?_)
            · have h := ip hc9 h
              refine so_iconst (v := (1 : Int32)) (pc := 75) hX dX10_hasTones_75 (by decide) ?_
              refine so_istore (pc := 76) hX dX10_hasTones_76 [(6, .int (1 : Int32)), (4, .int r5), (8, .int r5), (0, .ref (evA (xV X) 0)), (1, .int v1), (2, .int v2), (3, .int v3), (5, .int v5), (7, .int v7)] (by rw [hn]; decide) rfl ?_
              refine so_iinc (pc := 78) hX dX10_hasTones_78 8 (1 : Int32) [(7, .int (v7 + (1 : Int32))), (6, .int (1 : Int32)), (4, .int r5), (8, .int r5), (0, .ref (evA (xV X) 0)), (1, .int v1), (2, .int v2), (3, .int v3), (5, .int v5)] rfl (by decide) (by rw [hn]; decide) rfl ?_
              refine so_goto (pc := 81) hX 12 dX10_hasTones_81 (by decide) ?_
              refine so_sub (pc := 12) (lv' := [(0, .ref (evA (xV X) 0)), (1, .int v1), (2, .int v2), (3, .int v3), (4, .int r5), (5, .int v5), (6, .int (1 : Int32)), (7, .int (v7 + (1 : Int32)))]) [4, 5, 6, 7, 2, 8, 1, 0] rfl ?_
              exact ih _ _ _ _ _ h
            · have h := iq hc9 h
              refine so_iload (pc := 71) hX dX10_hasTones_71 1 rfl ?_
              refine so_istore (pc := 73) hX dX10_hasTones_73 [(5, .int r5), (4, .int r5), (8, .int r5), (0, .ref (evA (xV X) 0)), (1, .int v1), (2, .int v2), (3, .int v3), (6, .int v6), (7, .int v7)] (by rw [hn]; decide) rfl ?_
              refine so_iconst (v := (1 : Int32)) (pc := 75) hX dX10_hasTones_75 (by decide) ?_
              refine so_istore (pc := 76) hX dX10_hasTones_76 [(6, .int (1 : Int32)), (5, .int r5), (4, .int r5), (8, .int r5), (0, .ref (evA (xV X) 0)), (1, .int v1), (2, .int v2), (3, .int v3), (7, .int v7)] (by rw [hn]; decide) rfl ?_
              refine so_iinc (pc := 78) hX dX10_hasTones_78 8 (1 : Int32) [(7, .int (v7 + (1 : Int32))), (6, .int (1 : Int32)), (5, .int r5), (4, .int r5), (8, .int r5), (0, .ref (evA (xV X) 0)), (1, .int v1), (2, .int v2), (3, .int v3)] rfl (by decide) (by rw [hn]; decide) rfl ?_
              refine so_goto (pc := 81) hX 12 dX10_hasTones_81 (by decide) ?_
              refine so_sub (pc := 12) (lv' := [(0, .ref (evA (xV X) 0)), (1, .int v1), (2, .int v2), (3, .int v3), (4, .int r5), (5, .int r5), (6, .int (1 : Int32)), (7, .int (v7 + (1 : Int32)))]) [5, 6, 7, 8, 3, 2, 1, 0] rfl ?_
              exact ih _ _ _ _ _ h
      · have h := ip hc3 h
        refine so_goto (pc := 29) hX 78 dX10_hasTones_29 (by decide) ?_
        refine so_iinc (pc := 78) hX dX10_hasTones_78 7 (1 : Int32) [(7, .int (v7 + (1 : Int32))), (0, .ref (evA (xV X) 0)), (1, .int v1), (2, .int v2), (3, .int v3), (4, .int v4), (5, .int v5), (6, .int v6)] rfl (by decide) (by rw [hn]; decide) rfl ?_
        refine so_goto (pc := 81) hX 12 dX10_hasTones_81 (by decide) ?_
        refine so_sub (pc := 12) (lv' := [(0, .ref (evA (xV X) 0)), (1, .int v1), (2, .int v2), (3, .int v3), (4, .int v4), (5, .int v5), (6, .int v6), (7, .int (v7 + (1 : Int32)))]) [1, 2, 3, 4, 5, 6, 7, 0] rfl ?_
        exact ih _ _ _ _ _ h
set_option maxHeartbeats 4000000 in
set_option maxRecDepth 100000 in
theorem c_X10_hasTones {l : Launch} {V : Ev} (hL : V.2.2.2 = lyM) {v1 : Int32} {v2 : Int32} {v3 : Int32}  {μ : Mem} {rZ : Int32} {μZ : Mem} (h : f_X10_hasTones v1 v2 v3 μ = some (rZ, μZ)) : CT l V yX10_hasTones cX10_hasTones 9 (some .boolean) 1 [.ref (evA V 0), .int v1, .int v2, .int v3] μ μZ (some (.int rZ)) := by
  refine so_met [(0, .ref (evA V 0)), (1, .int v1), (2, .int v2), (3, .int v3)] (by decide) (Nat.le_of_ble_eq_true rfl) (evMn hL) rfl ?_
  intro X hl hV hn hX hR
  subst hl hV
  unfold f_X10_hasTones at h
  refine so_iconst (v := (0 : Int32)) (pc := 0) hX dX10_hasTones_0 (by decide) ?_
  refine so_istore (pc := 1) hX dX10_hasTones_1 [(4, .int (0 : Int32)), (0, .ref (evA (xV X) 0)), (1, .int v1), (2, .int v2), (3, .int v3)] (by rw [hn]; decide) rfl ?_
  refine so_iconst (v := (0 : Int32)) (pc := 3) hX dX10_hasTones_3 (by decide) ?_
  refine so_istore (pc := 4) hX dX10_hasTones_4 [(5, .int (0 : Int32)), (4, .int (0 : Int32)), (0, .ref (evA (xV X) 0)), (1, .int v1), (2, .int v2), (3, .int v3)] (by rw [hn]; decide) rfl ?_
  refine so_iconst (v := (0 : Int32)) (pc := 6) hX dX10_hasTones_6 (by decide) ?_
  refine so_istore (pc := 7) hX dX10_hasTones_7 [(6, .int (0 : Int32)), (5, .int (0 : Int32)), (4, .int (0 : Int32)), (0, .ref (evA (xV X) 0)), (1, .int v1), (2, .int v2), (3, .int v3)] (by rw [hn]; decide) rfl ?_
  refine so_iconst (v := (0 : Int32)) (pc := 9) hX dX10_hasTones_9 (by decide) ?_
  refine so_istore (pc := 10) hX dX10_hasTones_10 [(7, .int (0 : Int32)), (6, .int (0 : Int32)), (5, .int (0 : Int32)), (4, .int (0 : Int32)), (0, .ref (evA (xV X) 0)), (1, .int v1), (2, .int v2), (3, .int v3)] (by rw [hn]; decide) rfl ?_
  refine so_sub (pc := 12) (lv' := [(0, .ref (evA (xV X) 0)), (1, .int v1), (2, .int v2), (3, .int v3), (4, .int (0 : Int32)), (5, .int (0 : Int32)), (6, .int (0 : Int32)), (7, .int (0 : Int32))]) [4, 5, 6, 7, 3, 2, 1, 0] rfl ?_
  refine g_X10_hasTones_L12 hX hL hn hR (fun w10 w11 μ12 h => ?_) FU _ _ _ _ _ h
  refine so_iload (pc := 84) hX dX10_hasTones_84 3 rfl ?_
  refine so_iload (pc := 86) hX dX10_hasTones_86 2 rfl ?_
  refine so_isub (pc := 88) hX dX10_hasTones_88 ?_
  refine so_aload_n (pc := 89) hX dX10_hasTones_89 0 rfl ?_
  refine so_gR (pc := 90) hX 43 dX10_hasTones_90 fl_X10_140 (ekM hL rfl) (erM hL rfl) ?_
  refine so_iload_n (pc := 93) hX dX10_hasTones_93 1 rfl ?_
  obtain ⟨e13, hr, h⟩ := ob h
  refine so_iald (pc := 94) hX dX10_hasTones_94 (ekM hL rfl) (elM hL rfl) hr ?_
  refine so_icmp_gt (pc := 95) hX 102 dX10_hasTones_95 (by decide) (fun hc14 => ?_) (fun hc14 => ?_)
  · have h := ip hc14 h
    refine so_iconst (v := (0 : Int32)) (pc := 102) hX dX10_hasTones_102 (by decide) ?_
    exact so_iretH (pc := 103) hX hR h (by decide) dX10_hasTones_103
  · have h := iq hc14 h
    refine so_iconst (v := (1 : Int32)) (pc := 98) hX dX10_hasTones_98 (by decide) ?_
    refine so_goto (pc := 99) hX 103 dX10_hasTones_99 (by decide) ?_
    exact so_iretH (pc := 103) hX hR h (by decide) dX10_hasTones_103
set_option maxHeartbeats 4000000 in
set_option maxRecDepth 100000 in
theorem g_X10_fits_L3 {X : Cx} (hX : Fx X cX10_fits RX10 3) (hL : (xV X).2.2.2 = lyM) (hn : xn X = 8) {rZ : Int32} {μZ : Mem} (hR : Rt X (some .boolean) μZ (some (.int rZ))) {v1 : Int32} {v2 : Int32} {v3 : Int32} {v4 : Int32} {v5 : Int32}  {K : Mem → Option (Int32 × Mem)} (hK : ∀  (μ : Mem), K μ = some (rZ, μZ) → Gd X 122 [] [] μ) : ∀ (n : Nat) (v6 : Int32) (μ : Mem), f_X10_fits_L3 v1 v2 v3 v4 v5 K n v6 μ = some (rZ, μZ) → Gd X 3 [(0, .ref (evA (xV X) 0)), (1, .int v1), (2, .int v2), (3, .int v3), (4, .int v4), (5, .int v5), (6, .int v6)] [] μ := by
  intro n
  induction n with
  | zero => intro _ _ h; rw [f_X10_fits_L3] at h; cases h
  | succ n ih =>
    intro v6 μ h
    rw [f_X10_fits_L3] at h
    refine so_iload (pc := 3) hX dX10_fits_3 6 rfl ?_
    refine so_bipush (v := (10 : Int32)) (pc := 5) hX dX10_fits_5 (by decide) ?_
    refine so_icmp_ge (pc := 7) hX 122 dX10_fits_7 (by decide) (fun hc1 => ?_) (fun hc1 => ?_)
    · have h := ip hc1 h
      refine so_sub (pc := 122) (lv' := []) [] rfl ?_
      exact hK _ h
    · have h := iq hc1 h
      refine so_aload_n (pc := 10) hX dX10_fits_10 0 rfl ?_
      refine so_gR (pc := 11) hX 48 dX10_fits_11 fl_X10_155 (ekM hL rfl) (erM hL rfl) ?_
      refine so_iload (pc := 14) hX dX10_fits_14 6 rfl ?_
      obtain ⟨e2, hr, h⟩ := ob h
      refine so_iald (pc := 16) hX dX10_fits_16 (ekM hL rfl) (elM hL rfl) hr ?_
      refine so_if_ne (pc := 17) hX 23 dX10_fits_17 (by decide) (fun hc3 => ?_) (fun hc3 => ?_)
      · have h := iq hc3 h
        refine so_aload_n (pc := 23) hX dX10_fits_23 0 rfl ?_
        refine so_gR (pc := 24) hX 48 dX10_fits_24 fl_X10_155 (ekM hL rfl) (erM hL rfl) ?_
        refine so_iload (pc := 27) hX dX10_fits_27 6 rfl ?_
        obtain ⟨e4, hr, h⟩ := ob h
        refine so_iald (pc := 29) hX dX10_fits_29 (ekM hL rfl) (elM hL rfl) hr ?_
        refine so_aload_n (pc := 30) hX dX10_fits_30 0 rfl ?_
        refine so_gR (pc := 31) hX 42 dX10_fits_31 fl_X10_137 (ekM hL rfl) (erM hL rfl) ?_
        refine so_iload_n (pc := 34) hX dX10_fits_34 1 rfl ?_
        obtain ⟨e5, hr, h⟩ := ob h
        refine so_iald (pc := 35) hX dX10_fits_35 (ekM hL rfl) (elM hL rfl) hr ?_
        refine so_imul (pc := 36) hX dX10_fits_36 ?_
        refine so_istore (pc := 37) hX dX10_fits_37 [(7, .int (e4 * e5)), (0, .ref (evA (xV X) 0)), (1, .int v1), (2, .int v2), (3, .int v3), (4, .int v4), (5, .int v5), (6, .int v6)] (by rw [hn]; decide) rfl ?_
        refine so_aload_n (pc := 39) hX dX10_fits_39 1 rfl ?_
        refine so_iload_n (pc := 40) hX dX10_fits_40 3 rfl ?_
        refine so_iload_n (pc := 41) hX dX10_fits_41 4 rfl ?_
        refine so_iload (pc := 42) hX dX10_fits_42 7 rfl ?_
        refine so_iadd (pc := 44) hX dX10_fits_44 ?_
        refine so_iload (pc := 45) hX dX10_fits_45 6 rfl ?_
        refine so_i2l (pc := 47) hX dX10_fits_47 ?_
        refine so_iload (pc := 48) hX dX10_fits_48 5 rfl ?_
        refine so_i2l (pc := 50) hX dX10_fits_50 ?_
        refine so_aload_n (pc := 51) hX dX10_fits_51 1 rfl ?_
        refine so_gR (pc := 52) hX 41 dX10_fits_52 fl_X10_134 (ekM hL rfl) (erM hL rfl) ?_
        refine so_iload_n (pc := 55) hX dX10_fits_55 2 rfl ?_
        obtain ⟨e6, hr, h⟩ := ob h
        refine so_iald (pc := 56) hX dX10_fits_56 (ekM hL rfl) (elM hL rfl) hr ?_
        refine so_iload (pc := 57) hX dX10_fits_57 0 rfl ?_
        obtain ⟨r8, μ7, hr, h⟩ := obd h
        refine so_callV (As := [.int v2, .int (v3 + v6), .long (Int32.toInt64 v5), .long (Int32.toInt64 v4), .int e6, .int (e4 * e5)]) (rest := []) (pc := 59) hX dX10_fits_59 (c_X10_isWithin hL hr) mw_X10_isWithin mv_X10_isWithin ml_X10_201 (ekM hL rfl) (by decide) rfl rfl rfl rfl (by omega) (by decide) (Nat.le_of_ble_eq_true rfl) ?_
        refine so_if_eq (pc := 62) hX 114 dX10_fits_62 (by decide) (fun hc9 => ?_) (fun hc9 => ?_)
        · have h := ip hc9 h
          refine so_iconst (v := (0 : Int32)) (pc := 114) hX dX10_fits_114 (by decide) ?_
          exact so_iretH (pc := 115) hX hR h (by decide) dX10_fits_115
        · have h := iq hc9 h
          refine so_aload_n (pc := 65) hX dX10_fits_65 1 rfl ?_
          refine so_iload_n (pc := 66) hX dX10_fits_66 3 rfl ?_
          refine so_iload_n (pc := 67) hX dX10_fits_67 4 rfl ?_
          refine so_iload (pc := 68) hX dX10_fits_68 7 rfl ?_
          refine so_iadd (pc := 70) hX dX10_fits_70 ?_
          refine so_iload (pc := 71) hX dX10_fits_71 6 rfl ?_
          refine so_iload (pc := 73) hX dX10_fits_73 5 rfl ?_
          refine so_aload_n (pc := 75) hX dX10_fits_75 1 rfl ?_
          refine so_gR (pc := 76) hX 41 dX10_fits_76 fl_X10_134 (ekM hL rfl) (erM hL rfl) ?_
          refine so_iload_n (pc := 79) hX dX10_fits_79 2 rfl ?_
          obtain ⟨e10, hr, h⟩ := ob h
          refine so_iald (pc := 80) hX dX10_fits_80 (ekM hL rfl) (elM hL rfl) hr ?_
          refine so_iload (pc := 81) hX dX10_fits_81 0 rfl ?_
          obtain ⟨r12, μ11, hr, h⟩ := obd h
          refine so_callV (As := [.int v2, .int (v3 + v6), .int v5, .int v4, .int e10, .int (e4 * e5)]) (rest := []) (pc := 83) hX dX10_fits_83 (c_X10_flawIn hL hr) mw_X10_flawIn mv_X10_flawIn ml_X10_205 (ekM hL rfl) (by decide) rfl rfl rfl rfl (by omega) (by decide) (Nat.le_of_ble_eq_true rfl) ?_
          refine so_iconst (v := (-1 : Int32)) (pc := 86) hX dX10_fits_86 (by decide) ?_
          refine so_icmp_ne (pc := 87) hX 114 dX10_fits_87 (by decide) (fun hc13 => ?_) (fun hc13 => ?_)
          · have h := iq hc13 h
            refine so_iconst (v := (0 : Int32)) (pc := 114) hX dX10_fits_114 (by decide) ?_
            exact so_iretH (pc := 115) hX hR h (by decide) dX10_fits_115
          · have h := ip hc13 h
            refine so_aload_n (pc := 90) hX dX10_fits_90 1 rfl ?_
            refine so_iload_n (pc := 91) hX dX10_fits_91 3 rfl ?_
            refine so_iload_n (pc := 92) hX dX10_fits_92 4 rfl ?_
            refine so_iload (pc := 93) hX dX10_fits_93 7 rfl ?_
            refine so_iadd (pc := 95) hX dX10_fits_95 ?_
            refine so_iload (pc := 96) hX dX10_fits_96 6 rfl ?_
            refine so_iload (pc := 98) hX dX10_fits_98 5 rfl ?_
            refine so_aload_n (pc := 100) hX dX10_fits_100 1 rfl ?_
            refine so_gR (pc := 101) hX 41 dX10_fits_101 fl_X10_134 (ekM hL rfl) (erM hL rfl) ?_
            refine so_iload_n (pc := 104) hX dX10_fits_104 2 rfl ?_
            obtain ⟨e14, hr, h⟩ := ob h
            refine so_iald (pc := 105) hX dX10_fits_105 (ekM hL rfl) (elM hL rfl) hr ?_
            refine so_iload (pc := 106) hX dX10_fits_106 0 rfl ?_
            obtain ⟨r16, μ15, hr, h⟩ := obd h
            refine so_callV (As := [.int v2, .int (v3 + v6), .int v5, .int v4, .int e14, .int (e4 * e5)]) (rest := []) (pc := 108) hX dX10_fits_108 (c_X10_isCut hL hr) mw_X10_isCut mv_X10_isCut ml_X10_298 (ekM hL rfl) (by decide) rfl rfl rfl rfl (by omega) (by decide) (Nat.le_of_ble_eq_true rfl) ?_
            refine so_if_eq (pc := 111) hX 116 dX10_fits_111 (by decide) (fun hc17 => ?_) (fun hc17 => ?_)
            · have h := ip hc17 h
              refine so_iinc (pc := 116) hX dX10_fits_116 7 (1 : Int32) [(6, .int (v6 + (1 : Int32))), (7, .int (e4 * e5)), (0, .ref (evA (xV X) 0)), (1, .int v1), (2, .int v2), (3, .int v3), (4, .int v4), (5, .int v5)] rfl (by decide) (by rw [hn]; decide) rfl ?_
              refine so_goto (pc := 119) hX 3 dX10_fits_119 (by decide) ?_
              refine so_sub (pc := 3) (lv' := [(0, .ref (evA (xV X) 0)), (1, .int v1), (2, .int v2), (3, .int v3), (4, .int v4), (5, .int v5), (6, .int (v6 + (1 : Int32)))]) [2, 3, 4, 5, 6, 7, 0] rfl ?_
              exact ih _ _ h
            · have h := iq hc17 h
              refine so_iconst (v := (0 : Int32)) (pc := 114) hX dX10_fits_114 (by decide) ?_
              exact so_iretH (pc := 115) hX hR h (by decide) dX10_fits_115
      · have h := ip hc3 h
        refine so_goto (pc := 20) hX 116 dX10_fits_20 (by decide) ?_
        refine so_iinc (pc := 116) hX dX10_fits_116 6 (1 : Int32) [(6, .int (v6 + (1 : Int32))), (0, .ref (evA (xV X) 0)), (1, .int v1), (2, .int v2), (3, .int v3), (4, .int v4), (5, .int v5)] rfl (by decide) (by rw [hn]; decide) rfl ?_
        refine so_goto (pc := 119) hX 3 dX10_fits_119 (by decide) ?_
        refine so_sub (pc := 3) (lv' := [(0, .ref (evA (xV X) 0)), (1, .int v1), (2, .int v2), (3, .int v3), (4, .int v4), (5, .int v5), (6, .int (v6 + (1 : Int32)))]) [1, 2, 3, 4, 5, 6, 0] rfl ?_
        exact ih _ _ h
set_option maxHeartbeats 4000000 in
set_option maxRecDepth 100000 in
theorem c_X10_fits {l : Launch} {V : Ev} (hL : V.2.2.2 = lyM) {v1 : Int32} {v2 : Int32} {v3 : Int32} {v4 : Int32} {v5 : Int32}  {μ : Mem} {rZ : Int32} {μZ : Mem} (h : f_X10_fits v1 v2 v3 v4 v5 μ = some (rZ, μZ)) : CT l V yX10_fits cX10_fits 8 (some .boolean) 3 [.ref (evA V 0), .int v1, .int v2, .int v3, .int v4, .int v5] μ μZ (some (.int rZ)) := by
  refine so_met [(0, .ref (evA V 0)), (1, .int v1), (2, .int v2), (3, .int v3), (4, .int v4), (5, .int v5)] (by decide) (Nat.le_of_ble_eq_true rfl) (evMn hL) rfl ?_
  intro X hl hV hn hX hR
  subst hl hV
  unfold f_X10_fits at h
  refine so_iconst (v := (0 : Int32)) (pc := 0) hX dX10_fits_0 (by decide) ?_
  refine so_istore (pc := 1) hX dX10_fits_1 [(6, .int (0 : Int32)), (0, .ref (evA (xV X) 0)), (1, .int v1), (2, .int v2), (3, .int v3), (4, .int v4), (5, .int v5)] (by rw [hn]; decide) rfl ?_
  refine so_sub (pc := 3) (lv' := [(0, .ref (evA (xV X) 0)), (1, .int v1), (2, .int v2), (3, .int v3), (4, .int v4), (5, .int v5), (6, .int (0 : Int32))]) [1, 2, 3, 4, 5, 6, 0] rfl ?_
  refine g_X10_fits_L3 hX hL hn hR (fun μ18 h => ?_) FU _ _ h
  refine so_iconst (v := (1 : Int32)) (pc := 122) hX dX10_fits_122 (by decide) ?_
  exact so_iretH (pc := 123) hX hR h (by decide) dX10_fits_123
set_option maxHeartbeats 4000000 in
set_option maxRecDepth 100000 in
theorem g_X10_why_L21 {X : Cx} (hX : Fx X cX10_why RX10 3) (hL : (xV X).2.2.2 = lyM) (hn : xn X = 13) {rZ : Int32} {μZ : Mem} (hR : Rt X (some .int) μZ (some (.int rZ))) {v1 : Int32} {v2 : Int32} {v3 : Int32} {v4 : Int32} {v5 : Int32}  {K : Mem → Option (Int32 × Mem)} (hK : ∀  (μ : Mem), K μ = some (rZ, μZ) → Gd X 42 [(0, .ref (evA (xV X) 0)), (1, .int v1), (2, .int v2), (3, .int v3), (4, .int v4), (5, .int v5)] [] μ) : ∀ (n : Nat) (v6 : Int32) (μ : Mem), f_X10_why_L21 v1 v2 v3 v4 v5 K n v6 μ = some (rZ, μZ) → Gd X 21 [(0, .ref (evA (xV X) 0)), (1, .int v1), (2, .int v2), (3, .int v3), (4, .int v4), (5, .int v5), (6, .int v6)] [] μ := by
  intro n
  induction n with
  | zero => intro _ _ h; rw [f_X10_why_L21] at h; cases h
  | succ n ih =>
    intro v6 μ h
    rw [f_X10_why_L21] at h
    refine so_iload (pc := 21) hX dX10_why_21 6 rfl ?_
    refine so_bipush (v := (10 : Int32)) (pc := 23) hX dX10_why_23 (by decide) ?_
    refine so_icmp_ge (pc := 25) hX 42 dX10_why_25 (by decide) (fun hc7 => ?_) (fun hc7 => ?_)
    · have h := ip hc7 h
      refine so_sub (pc := 42) (lv' := [(0, .ref (evA (xV X) 0)), (1, .int v1), (2, .int v2), (3, .int v3), (4, .int v4), (5, .int v5)]) [0, 1, 2, 3, 4, 5] rfl ?_
      exact hK _ h
    · have h := iq hc7 h
      refine so_aload_n (pc := 28) hX dX10_why_28 0 rfl ?_
      refine so_gR (pc := 29) hX 48 dX10_why_29 fl_X10_155 (ekM hL rfl) (erM hL rfl) ?_
      refine so_iload (pc := 32) hX dX10_why_32 6 rfl ?_
      refine so_iconst (v := (0 : Int32)) (pc := 34) hX dX10_why_34 (by decide) ?_
      obtain ⟨μ8, hr, h⟩ := ob h
      refine so_iast (pc := 35) hX dX10_why_35 (ekM hL rfl) (elM hL rfl) hr ?_
      refine so_iinc (pc := 36) hX dX10_why_36 6 (1 : Int32) [(6, .int (v6 + (1 : Int32))), (0, .ref (evA (xV X) 0)), (1, .int v1), (2, .int v2), (3, .int v3), (4, .int v4), (5, .int v5)] rfl (by decide) (by rw [hn]; decide) rfl ?_
      refine so_goto (pc := 39) hX 21 dX10_why_39 (by decide) ?_
      refine so_sub (pc := 21) (lv' := [(0, .ref (evA (xV X) 0)), (1, .int v1), (2, .int v2), (3, .int v3), (4, .int v4), (5, .int v5), (6, .int (v6 + (1 : Int32)))]) [1, 2, 3, 4, 5, 6, 0] rfl ?_
      exact ih _ _ h
set_option maxHeartbeats 4000000 in
set_option maxRecDepth 100000 in
theorem g_X10_why_L59 {X : Cx} (hX : Fx X cX10_why RX10 3) (hL : (xV X).2.2.2 = lyM) (hn : xn X = 13) {rZ : Int32} {μZ : Mem} (hR : Rt X (some .int) μZ (some (.int rZ))) {v1 : Int32} {v2 : Int32} {v3 : Int32} {v4 : Int32} {v5 : Int32} {v6 : Int32}  {K : Mem → Option (Int32 × Mem)} (hK : ∀  (μ : Mem), K μ = some (rZ, μZ) → Gd X 244 [(0, .ref (evA (xV X) 0)), (1, .int v1), (2, .int v2), (3, .int v3), (4, .int v4), (5, .int v5), (6, .int v6)] [] μ) : ∀ (n : Nat) (v7 : Int32) (μ : Mem), f_X10_why_L59 v1 v2 v3 v4 v5 v6 K n v7 μ = some (rZ, μZ) → Gd X 59 [(0, .ref (evA (xV X) 0)), (1, .int v1), (2, .int v2), (3, .int v3), (4, .int v4), (5, .int v5), (6, .int v6), (7, .int v7)] [] μ := by
  intro n
  induction n with
  | zero => intro _ _ h; rw [f_X10_why_L59] at h; cases h
  | succ n ih =>
    intro v7 μ h
    rw [f_X10_why_L59] at h
    refine so_iload (pc := 59) hX dX10_why_59 7 rfl ?_
    refine so_aload_n (pc := 61) hX dX10_why_61 0 rfl ?_
    refine so_gR (pc := 62) hX 38 dX10_why_62 fl_X10_125 (ekM hL rfl) (erM hL rfl) ?_
    refine so_iload_n (pc := 65) hX dX10_why_65 1 rfl ?_
    obtain ⟨e12, hr, h⟩ := ob h
    refine so_iald (pc := 66) hX dX10_why_66 (ekM hL rfl) (elM hL rfl) hr ?_
    refine so_icmp_ge (pc := 67) hX 244 dX10_why_67 (by decide) (fun hc13 => ?_) (fun hc13 => ?_)
    · have h := ip hc13 h
      refine so_sub (pc := 244) (lv' := [(0, .ref (evA (xV X) 0)), (1, .int v1), (2, .int v2), (3, .int v3), (4, .int v4), (5, .int v5), (6, .int v6)]) [0, 1, 2, 3, 4, 5, 6] rfl ?_
      exact hK _ h
    · have h := iq hc13 h
      refine so_aload_n (pc := 70) hX dX10_why_70 0 rfl ?_
      refine so_iload_n (pc := 71) hX dX10_why_71 1 rfl ?_
      refine so_iload (pc := 72) hX dX10_why_72 7 rfl ?_
      refine so_iload (pc := 74) hX dX10_why_74 6 rfl ?_
      obtain ⟨r15, μ14, hr, h⟩ := obd h
      refine so_callV (As := [.int v1, .int v7, .int v6]) (rest := []) (pc := 76) hX dX10_why_76 (c_X10_pieceOf hL hr) mw_X10_pieceOf mv_X10_pieceOf ml_X10_279 (ekM hL rfl) (by decide) rfl rfl rfl rfl (by omega) (by decide) (Nat.le_of_ble_eq_true rfl) ?_
      refine so_bipush (v := (15 : Int32)) (pc := 79) hX dX10_why_79 (by decide) ?_
      refine so_iand (pc := 81) hX dX10_why_81 ?_
      refine so_istore (pc := 82) hX dX10_why_82 [(8, .int (r15 &&& (15 : Int32))), (0, .ref (evA (xV X) 0)), (1, .int v1), (2, .int v2), (3, .int v3), (4, .int v4), (5, .int v5), (6, .int v6), (7, .int v7)] (by rw [hn]; decide) rfl ?_
      refine so_iload_n (pc := 84) hX dX10_why_84 4 rfl ?_
      refine so_i2l (pc := 85) hX dX10_why_85 ?_
      refine so_iload (pc := 86) hX dX10_why_86 0 rfl ?_
      refine so_i2l (pc := 88) hX dX10_why_88 ?_
      refine so_ladd (pc := 89) hX dX10_why_89 ?_
      refine so_lstore (pc := 90) hX dX10_why_90 [(9, .long ((Int32.toInt64 v3) + (Int32.toInt64 (r15 &&& (15 : Int32))))), (8, .int (r15 &&& (15 : Int32))), (0, .ref (evA (xV X) 0)), (1, .int v1), (2, .int v2), (3, .int v3), (4, .int v4), (5, .int v5), (6, .int v6), (7, .int v7)] (by rw [hn]; decide) rfl ?_
      refine so_iload (pc := 92) hX dX10_why_92 6 rfl ?_
      refine so_i2l (pc := 94) hX dX10_why_94 ?_
      refine so_aload_n (pc := 95) hX dX10_why_95 2 rfl ?_
      refine so_gR (pc := 96) hX 48 dX10_why_96 fl_X10_155 (ekM hL rfl) (erM hL rfl) ?_
      refine so_iload (pc := 99) hX dX10_why_99 1 rfl ?_
      obtain ⟨e16, hr, h⟩ := ob h
      refine so_iald (pc := 101) hX dX10_why_101 (ekM hL rfl) (elM hL rfl) hr ?_
      refine so_i2l (pc := 102) hX dX10_why_102 ?_
      refine so_aload_n (pc := 103) hX dX10_why_103 2 rfl ?_
      refine so_gR (pc := 104) hX 42 dX10_why_104 fl_X10_137 (ekM hL rfl) (erM hL rfl) ?_
      refine so_iload_n (pc := 107) hX dX10_why_107 3 rfl ?_
      obtain ⟨e17, hr, h⟩ := ob h
      refine so_iald (pc := 108) hX dX10_why_108 (ekM hL rfl) (elM hL rfl) hr ?_
      refine so_i2l (pc := 109) hX dX10_why_109 ?_
      refine so_lmul (pc := 110) hX dX10_why_110 ?_
      refine so_ladd (pc := 111) hX dX10_why_111 ?_
      refine so_lstore (pc := 112) hX dX10_why_112 [(11, .long ((Int32.toInt64 v4) + ((Int32.toInt64 e16) * (Int32.toInt64 e17)))), (9, .long ((Int32.toInt64 v3) + (Int32.toInt64 (r15 &&& (15 : Int32))))), (8, .int (r15 &&& (15 : Int32))), (0, .ref (evA (xV X) 0)), (1, .int v1), (2, .int v2), (3, .int v3), (4, .int v4), (5, .int v5), (6, .int v6), (7, .int v7)] (by rw [hn]; decide) rfl ?_
      refine so_aload_n (pc := 114) hX dX10_why_114 3 rfl ?_
      refine so_gR (pc := 115) hX 48 dX10_why_115 fl_X10_155 (ekM hL rfl) (erM hL rfl) ?_
      refine so_iload (pc := 118) hX dX10_why_118 2 rfl ?_
      refine so_dup2 (pc := 120) hX dX10_why_120 rfl rfl ?_
      obtain ⟨e18, hr, h⟩ := ob h
      refine so_iald (pc := 121) hX dX10_why_121 (ekM hL rfl) (elM hL rfl) hr ?_
      refine so_iconst (v := (1 : Int32)) (pc := 122) hX dX10_why_122 (by decide) ?_
      refine so_iadd (pc := 123) hX dX10_why_123 ?_
      obtain ⟨μ19, hr, h⟩ := ob h
      refine so_iast (pc := 124) hX dX10_why_124 (ekM hL rfl) (elM hL rfl) hr ?_
      refine so_lload (pc := 125) hX dX10_why_125 1 rfl ?_
      refine so_lconst (v := (0 : Int64)) (pc := 127) hX dX10_why_127 (by decide) ?_
      refine so_lcmp (pc := 128) hX dX10_why_128 ?_
      refine so_if_lt (pc := 129) hX 145 dX10_why_129 (by decide) (fun hc20 => ?_) (fun hc20 => ?_)
      · have h := ip hc20 h
        refine so_iconst (v := (1 : Int32)) (pc := 145) hX dX10_why_145 (by decide) ?_
        exact so_iretH (pc := 146) hX hR h rfl dX10_why_146
      · have h := iq hc20 h
        refine so_lload (pc := 132) hX dX10_why_132 1 rfl ?_
        refine so_aload_n (pc := 134) hX dX10_why_134 3 rfl ?_
        refine so_gR (pc := 135) hX 1 dX10_why_135 fl_X10_7 (ekM hL rfl) (erM hL rfl) ?_
        refine so_iload_n (pc := 138) hX dX10_why_138 5 rfl ?_
        obtain ⟨e21, hr, h⟩ := ob h
        refine so_iald (pc := 139) hX dX10_why_139 (ekM hL rfl) (elM hL rfl) hr ?_
        refine so_i2l (pc := 140) hX dX10_why_140 ?_
        refine so_lcmp (pc := 141) hX dX10_why_141 ?_
        refine so_if_lt (pc := 142) hX 147 dX10_why_142 (by decide) (fun hc22 => ?_) (fun hc22 => ?_)
        · have h := ip hc22 h
          refine so_aload_n (pc := 147) hX dX10_why_147 3 rfl ?_
          refine so_iload_n (pc := 148) hX dX10_why_148 5 rfl ?_
          refine so_lload (pc := 149) hX dX10_why_149 1 rfl ?_
          refine so_l2i (pc := 151) hX dX10_why_151 ?_
          refine so_iload (pc := 152) hX dX10_why_152 8 rfl ?_
          refine so_i2l (pc := 154) hX dX10_why_154 ?_
          refine so_lload (pc := 155) hX dX10_why_155 0 rfl ?_
          refine so_aload_n (pc := 157) hX dX10_why_157 3 rfl ?_
          refine so_gR (pc := 158) hX 41 dX10_why_158 fl_X10_134 (ekM hL rfl) (erM hL rfl) ?_
          refine so_iload_n (pc := 161) hX dX10_why_161 4 rfl ?_
          obtain ⟨e23, hr, h⟩ := ob h
          refine so_iald (pc := 162) hX dX10_why_162 (ekM hL rfl) (elM hL rfl) hr ?_
          refine so_aload_n (pc := 163) hX dX10_why_163 3 rfl ?_
          refine so_gR (pc := 164) hX 42 dX10_why_164 fl_X10_137 (ekM hL rfl) (erM hL rfl) ?_
          refine so_iload_n (pc := 167) hX dX10_why_167 4 rfl ?_
          obtain ⟨e24, hr, h⟩ := ob h
          refine so_iald (pc := 168) hX dX10_why_168 (ekM hL rfl) (elM hL rfl) hr ?_
          obtain ⟨r26, μ25, hr, h⟩ := obd h
          refine so_callV (As := [.int v2, .int (Int64.toInt32 ((Int32.toInt64 v3) + (Int32.toInt64 (r15 &&& (15 : Int32))))), .long (Int32.toInt64 v5), .long ((Int32.toInt64 v4) + ((Int32.toInt64 e16) * (Int32.toInt64 e17))), .int e23, .int e24]) (rest := []) (pc := 169) hX dX10_why_169 (c_X10_isWithin hL hr) mw_X10_isWithin mv_X10_isWithin ml_X10_201 (ekM hL rfl) (by decide) rfl rfl rfl rfl (by omega) (by decide) (Nat.le_of_ble_eq_true rfl) ?_
          refine so_if_ne (pc := 172) hX 177 dX10_why_172 (by decide) (fun hc27 => ?_) (fun hc27 => ?_)
          · have h := iq hc27 h
            refine so_aload_n (pc := 177) hX dX10_why_177 3 rfl ?_
            refine so_iload_n (pc := 178) hX dX10_why_178 5 rfl ?_
            refine so_lload (pc := 179) hX dX10_why_179 1 rfl ?_
            refine so_l2i (pc := 181) hX dX10_why_181 ?_
            refine so_iload (pc := 182) hX dX10_why_182 8 rfl ?_
            refine so_lload (pc := 184) hX dX10_why_184 0 rfl ?_
            refine so_l2i (pc := 186) hX dX10_why_186 ?_
            refine so_aload_n (pc := 187) hX dX10_why_187 3 rfl ?_
            refine so_gR (pc := 188) hX 41 dX10_why_188 fl_X10_134 (ekM hL rfl) (erM hL rfl) ?_
            refine so_iload_n (pc := 191) hX dX10_why_191 4 rfl ?_
            obtain ⟨e28, hr, h⟩ := ob h
            refine so_iald (pc := 192) hX dX10_why_192 (ekM hL rfl) (elM hL rfl) hr ?_
            refine so_aload_n (pc := 193) hX dX10_why_193 3 rfl ?_
            refine so_gR (pc := 194) hX 42 dX10_why_194 fl_X10_137 (ekM hL rfl) (erM hL rfl) ?_
            refine so_iload_n (pc := 197) hX dX10_why_197 4 rfl ?_
            obtain ⟨e29, hr, h⟩ := ob h
            refine so_iald (pc := 198) hX dX10_why_198 (ekM hL rfl) (elM hL rfl) hr ?_
            obtain ⟨r31, μ30, hr, h⟩ := obd h
            refine so_callV (As := [.int v2, .int (Int64.toInt32 ((Int32.toInt64 v3) + (Int32.toInt64 (r15 &&& (15 : Int32))))), .int v5, .int (Int64.toInt32 ((Int32.toInt64 v4) + ((Int32.toInt64 e16) * (Int32.toInt64 e17)))), .int e28, .int e29]) (rest := []) (pc := 199) hX dX10_why_199 (c_X10_flawIn hL hr) mw_X10_flawIn mv_X10_flawIn ml_X10_205 (ekM hL rfl) (by decide) rfl rfl rfl rfl (by omega) (by decide) (Nat.le_of_ble_eq_true rfl) ?_
            refine so_iconst (v := (-1 : Int32)) (pc := 202) hX dX10_why_202 (by decide) ?_
            refine so_icmp_eq (pc := 203) hX 208 dX10_why_203 (by decide) (fun hc32 => ?_) (fun hc32 => ?_)
            · have h := ip hc32 h
              refine so_aload_n (pc := 208) hX dX10_why_208 3 rfl ?_
              refine so_iload_n (pc := 209) hX dX10_why_209 5 rfl ?_
              refine so_lload (pc := 210) hX dX10_why_210 1 rfl ?_
              refine so_l2i (pc := 212) hX dX10_why_212 ?_
              refine so_iload (pc := 213) hX dX10_why_213 8 rfl ?_
              refine so_lload (pc := 215) hX dX10_why_215 0 rfl ?_
              refine so_l2i (pc := 217) hX dX10_why_217 ?_
              refine so_aload_n (pc := 218) hX dX10_why_218 3 rfl ?_
              refine so_gR (pc := 219) hX 41 dX10_why_219 fl_X10_134 (ekM hL rfl) (erM hL rfl) ?_
              refine so_iload_n (pc := 222) hX dX10_why_222 4 rfl ?_
              obtain ⟨e33, hr, h⟩ := ob h
              refine so_iald (pc := 223) hX dX10_why_223 (ekM hL rfl) (elM hL rfl) hr ?_
              refine so_aload_n (pc := 224) hX dX10_why_224 3 rfl ?_
              refine so_gR (pc := 225) hX 42 dX10_why_225 fl_X10_137 (ekM hL rfl) (erM hL rfl) ?_
              refine so_iload_n (pc := 228) hX dX10_why_228 4 rfl ?_
              obtain ⟨e34, hr, h⟩ := ob h
              refine so_iald (pc := 229) hX dX10_why_229 (ekM hL rfl) (elM hL rfl) hr ?_
              obtain ⟨r36, μ35, hr, h⟩ := obd h
              refine so_callV (As := [.int v2, .int (Int64.toInt32 ((Int32.toInt64 v3) + (Int32.toInt64 (r15 &&& (15 : Int32))))), .int v5, .int (Int64.toInt32 ((Int32.toInt64 v4) + ((Int32.toInt64 e16) * (Int32.toInt64 e17)))), .int e33, .int e34]) (rest := []) (pc := 230) hX dX10_why_230 (c_X10_isCut hL hr) mw_X10_isCut mv_X10_isCut ml_X10_298 (ekM hL rfl) (by decide) rfl rfl rfl rfl (by omega) (by decide) (Nat.le_of_ble_eq_true rfl) ?_
              refine so_if_eq (pc := 233) hX 238 dX10_why_233 (by decide) (fun hc37 => ?_) (fun hc37 => ?_)
              · have h := ip hc37 h
                refine so_iinc (pc := 238) hX dX10_why_238 10 (1 : Int32) [(7, .int (v7 + (1 : Int32))), (11, .long ((Int32.toInt64 v4) + ((Int32.toInt64 e16) * (Int32.toInt64 e17)))), (9, .long ((Int32.toInt64 v3) + (Int32.toInt64 (r15 &&& (15 : Int32))))), (8, .int (r15 &&& (15 : Int32))), (0, .ref (evA (xV X) 0)), (1, .int v1), (2, .int v2), (3, .int v3), (4, .int v4), (5, .int v5), (6, .int v6)] rfl (by decide) (by rw [hn]; decide) rfl ?_
                refine so_goto (pc := 241) hX 59 dX10_why_241 (by decide) ?_
                refine so_sub (pc := 59) (lv' := [(0, .ref (evA (xV X) 0)), (1, .int v1), (2, .int v2), (3, .int v3), (4, .int v4), (5, .int v5), (6, .int v6), (7, .int (v7 + (1 : Int32)))]) [4, 5, 6, 7, 8, 9, 10, 0] rfl ?_
                exact ih _ _ h
              · have h := iq hc37 h
                refine so_iconst (v := (4 : Int32)) (pc := 236) hX dX10_why_236 (by decide) ?_
                exact so_iretH (pc := 237) hX hR h rfl dX10_why_237
            · have h := iq hc32 h
              refine so_iconst (v := (3 : Int32)) (pc := 206) hX dX10_why_206 (by decide) ?_
              exact so_iretH (pc := 207) hX hR h rfl dX10_why_207
          · have h := ip hc27 h
            refine so_iconst (v := (2 : Int32)) (pc := 175) hX dX10_why_175 (by decide) ?_
            exact so_iretH (pc := 176) hX hR h rfl dX10_why_176
        · have h := iq hc22 h
          refine so_iconst (v := (1 : Int32)) (pc := 145) hX dX10_why_145 (by decide) ?_
          exact so_iretH (pc := 146) hX hR h rfl dX10_why_146
set_option maxHeartbeats 4000000 in
set_option maxRecDepth 100000 in
theorem g_X10_why_L45 {X : Cx} (hX : Fx X cX10_why RX10 3) (hL : (xV X).2.2.2 = lyM) (hn : xn X = 13) {rZ : Int32} {μZ : Mem} (hR : Rt X (some .int) μZ (some (.int rZ))) {v1 : Int32} {v2 : Int32} {v3 : Int32} {v4 : Int32} {v5 : Int32}  {K : Mem → Option (Int32 × Mem)} (hK : ∀  (μ : Mem), K μ = some (rZ, μZ) → Gd X 250 [(0, .ref (evA (xV X) 0)), (1, .int v1), (2, .int v2), (3, .int v3)] [] μ) : ∀ (n : Nat) (v6 : Int32) (μ : Mem), f_X10_why_L45 v1 v2 v3 v4 v5 K n v6 μ = some (rZ, μZ) → Gd X 45 [(0, .ref (evA (xV X) 0)), (1, .int v1), (2, .int v2), (3, .int v3), (4, .int v4), (5, .int v5), (6, .int v6)] [] μ := by
  intro n
  induction n with
  | zero => intro _ _ h; rw [f_X10_why_L45] at h; cases h
  | succ n ih =>
    intro v6 μ h
    rw [f_X10_why_L45] at h
    refine so_iload (pc := 45) hX dX10_why_45 6 rfl ?_
    refine so_aload_n (pc := 47) hX dX10_why_47 0 rfl ?_
    refine so_gR (pc := 48) hX 39 dX10_why_48 fl_X10_128 (ekM hL rfl) (erM hL rfl) ?_
    refine so_iload_n (pc := 51) hX dX10_why_51 1 rfl ?_
    obtain ⟨e10, hr, h⟩ := ob h
    refine so_iald (pc := 52) hX dX10_why_52 (ekM hL rfl) (elM hL rfl) hr ?_
    refine so_icmp_ge (pc := 53) hX 250 dX10_why_53 (by decide) (fun hc11 => ?_) (fun hc11 => ?_)
    · have h := ip hc11 h
      refine so_sub (pc := 250) (lv' := [(0, .ref (evA (xV X) 0)), (1, .int v1), (2, .int v2), (3, .int v3)]) [0, 1, 2, 3] rfl ?_
      exact hK _ h
    · have h := iq hc11 h
      refine so_iconst (v := (0 : Int32)) (pc := 56) hX dX10_why_56 (by decide) ?_
      refine so_istore (pc := 57) hX dX10_why_57 [(7, .int (0 : Int32)), (0, .ref (evA (xV X) 0)), (1, .int v1), (2, .int v2), (3, .int v3), (4, .int v4), (5, .int v5), (6, .int v6)] (by rw [hn]; decide) rfl ?_
      refine so_sub (pc := 59) (lv' := [(0, .ref (evA (xV X) 0)), (1, .int v1), (2, .int v2), (3, .int v3), (4, .int v4), (5, .int v5), (6, .int v6), (7, .int (0 : Int32))]) [1, 2, 3, 4, 5, 6, 7, 0] rfl ?_
      refine g_X10_why_L59 hX hL hn hR (fun μ38 h => ?_) FU _ _ h
      refine so_iinc (pc := 244) hX dX10_why_244 6 (1 : Int32) [(6, .int (v6 + (1 : Int32))), (0, .ref (evA (xV X) 0)), (1, .int v1), (2, .int v2), (3, .int v3), (4, .int v4), (5, .int v5)] rfl (by decide) (by rw [hn]; decide) rfl ?_
      refine so_goto (pc := 247) hX 45 dX10_why_247 (by decide) ?_
      refine so_sub (pc := 45) (lv' := [(0, .ref (evA (xV X) 0)), (1, .int v1), (2, .int v2), (3, .int v3), (4, .int v4), (5, .int v5), (6, .int (v6 + (1 : Int32)))]) [1, 2, 3, 4, 5, 6, 0] rfl ?_
      exact ih _ _ h
set_option maxHeartbeats 4000000 in
set_option maxRecDepth 100000 in
theorem c_X10_why {l : Launch} {V : Ev} (hL : V.2.2.2 = lyM) {v1 : Int32} {v2 : Int32} {v3 : Int32} {v4 : Int32} {v5 : Int32}  {μ : Mem} {rZ : Int32} {μZ : Mem} (h : f_X10_why v1 v2 v3 v4 v5 μ = some (rZ, μZ)) : CT l V yX10_why cX10_why 13 (some .int) 3 [.ref (evA V 0), .int v1, .int v2, .int v3, .int v4, .int v5] μ μZ (some (.int rZ)) := by
  refine so_met [(0, .ref (evA V 0)), (1, .int v1), (2, .int v2), (3, .int v3), (4, .int v4), (5, .int v5)] (by decide) (Nat.le_of_ble_eq_true rfl) (evMn hL) rfl ?_
  intro X hl hV hn hX hR
  subst hl hV
  unfold f_X10_why at h
  refine so_aload_n (pc := 0) hX dX10_why_0 0 rfl ?_
  refine so_iload_n (pc := 1) hX dX10_why_1 1 rfl ?_
  obtain ⟨r2, μ1, hr, h⟩ := obd h
  refine so_callV (As := [.int v1]) (rest := []) (pc := 2) hX dX10_why_2 (c_X10_isDoor hL hr) mw_X10_isDoor mv_X10_isDoor ml_X10_276 (ekM hL rfl) (by decide) rfl rfl rfl rfl (by omega) (by decide) (Nat.le_of_ble_eq_true rfl) ?_
  refine so_if_eq (pc := 5) hX 16 dX10_why_5 (by decide) (fun hc3 => ?_) (fun hc3 => ?_)
  · have h := ip hc3 h
    refine so_iconst (v := (-1 : Int32)) (pc := 16) hX dX10_why_16 (by decide) ?_
    exact so_iretH (pc := 17) hX hR h rfl dX10_why_17
  · have h := iq hc3 h
    refine so_aload_n (pc := 8) hX dX10_why_8 0 rfl ?_
    refine so_iload_n (pc := 9) hX dX10_why_9 2 rfl ?_
    obtain ⟨r5, μ4, hr, h⟩ := obd h
    refine so_callV (As := [.int v2]) (rest := []) (pc := 10) hX dX10_why_10 (c_X10_isLog hL hr) mw_X10_isLog mv_X10_isLog ml_X10_167 (ekM hL rfl) (by decide) rfl rfl rfl rfl (by omega) (by decide) (Nat.le_of_ble_eq_true rfl) ?_
    refine so_if_ne (pc := 13) hX 18 dX10_why_13 (by decide) (fun hc6 => ?_) (fun hc6 => ?_)
    · have h := iq hc6 h
      refine so_iconst (v := (0 : Int32)) (pc := 18) hX dX10_why_18 (by decide) ?_
      refine so_istore (pc := 19) hX dX10_why_19 [(6, .int (0 : Int32)), (0, .ref (evA (xV X) 0)), (1, .int v1), (2, .int v2), (3, .int v3), (4, .int v4), (5, .int v5)] (by rw [hn]; decide) rfl ?_
      refine so_sub (pc := 21) (lv' := [(0, .ref (evA (xV X) 0)), (1, .int v1), (2, .int v2), (3, .int v3), (4, .int v4), (5, .int v5), (6, .int (0 : Int32))]) [1, 2, 3, 4, 5, 6, 0] rfl ?_
      refine g_X10_why_L21 hX hL hn hR (fun μ9 h => ?_) FU _ _ h
      refine so_iconst (v := (0 : Int32)) (pc := 42) hX dX10_why_42 (by decide) ?_
      refine so_istore (pc := 43) hX dX10_why_43 [(6, .int (0 : Int32)), (0, .ref (evA (xV X) 0)), (1, .int v1), (2, .int v2), (3, .int v3), (4, .int v4), (5, .int v5)] (by rw [hn]; decide) rfl ?_
      refine so_sub (pc := 45) (lv' := [(0, .ref (evA (xV X) 0)), (1, .int v1), (2, .int v2), (3, .int v3), (4, .int v4), (5, .int v5), (6, .int (0 : Int32))]) [1, 2, 3, 4, 5, 6, 0] rfl ?_
      refine g_X10_why_L45 hX hL hn hR (fun μ39 h => ?_) FU _ _ h
      refine so_aload_n (pc := 250) hX dX10_why_250 0 rfl ?_
      refine so_iload_n (pc := 251) hX dX10_why_251 1 rfl ?_
      refine so_iload_n (pc := 252) hX dX10_why_252 2 rfl ?_
      refine so_iload_n (pc := 253) hX dX10_why_253 3 rfl ?_
      obtain ⟨r41, μ40, hr, h⟩ := obd h
      refine so_callV (As := [.int v1, .int v2, .int v3]) (rest := []) (pc := 254) hX dX10_why_254 (c_X10_hasTones hL hr) mw_X10_hasTones mv_X10_hasTones ml_X10_301 (ekM hL rfl) (by decide) rfl rfl rfl rfl (by omega) (by decide) (Nat.le_of_ble_eq_true rfl) ?_
      refine so_if_eq (pc := 257) hX 264 dX10_why_257 (by decide) (fun hc42 => ?_) (fun hc42 => ?_)
      · have h := ip hc42 h
        refine so_iconst (v := (5 : Int32)) (pc := 264) hX dX10_why_264 (by decide) ?_
        exact so_iretH (pc := 265) hX hR h rfl dX10_why_265
      · have h := iq hc42 h
        refine so_iconst (v := (0 : Int32)) (pc := 260) hX dX10_why_260 (by decide) ?_
        refine so_goto (pc := 261) hX 265 dX10_why_261 (by decide) ?_
        exact so_iretH (pc := 265) hX hR h rfl dX10_why_265
    · have h := ip hc6 h
      refine so_iconst (v := (-1 : Int32)) (pc := 16) hX dX10_why_16 (by decide) ?_
      exact so_iretH (pc := 17) hX hR h rfl dX10_why_17
set_option maxHeartbeats 4000000 in
set_option maxRecDepth 100000 in
theorem g_X10_hasLeaves_L3 {X : Cx} (hX : Fx X cX10_hasLeaves RX10 2) (hL : (xV X).2.2.2 = lyM) (hn : xn X = 5) {rZ : Int32} {μZ : Mem} (hR : Rt X (some .boolean) μZ (some (.int rZ))) {v1 : Int32} {v2 : Int32} {v3 : Int32}  {K : Mem → Option (Int32 × Mem)} (hK : ∀  (μ : Mem), K μ = some (rZ, μZ) → Gd X 41 [(0, .ref (evA (xV X) 0)), (1, .int v1), (2, .int v2), (3, .int v3)] [] μ) : ∀ (n : Nat) (v4 : Int32) (μ : Mem), f_X10_hasLeaves_L3 v1 v2 v3 K n v4 μ = some (rZ, μZ) → Gd X 3 [(0, .ref (evA (xV X) 0)), (1, .int v1), (2, .int v2), (3, .int v3), (4, .int v4)] [] μ := by
  intro n
  induction n with
  | zero => intro _ _ h; rw [f_X10_hasLeaves_L3] at h; cases h
  | succ n ih =>
    intro v4 μ h
    rw [f_X10_hasLeaves_L3] at h
    refine so_iload (pc := 3) hX dX10_hasLeaves_3 4 rfl ?_
    refine so_bipush (v := (10 : Int32)) (pc := 5) hX dX10_hasLeaves_5 (by decide) ?_
    refine so_icmp_ge (pc := 7) hX 41 dX10_hasLeaves_7 (by decide) (fun hc1 => ?_) (fun hc1 => ?_)
    · have h := ip hc1 h
      refine so_sub (pc := 41) (lv' := [(0, .ref (evA (xV X) 0)), (1, .int v1), (2, .int v2), (3, .int v3)]) [0, 1, 2, 3] rfl ?_
      exact hK _ h
    · have h := iq hc1 h
      refine so_aload_n (pc := 10) hX dX10_hasLeaves_10 0 rfl ?_
      refine so_gR (pc := 11) hX 48 dX10_hasLeaves_11 fl_X10_155 (ekM hL rfl) (erM hL rfl) ?_
      refine so_iload (pc := 14) hX dX10_hasLeaves_14 4 rfl ?_
      obtain ⟨e2, hr, h⟩ := ob h
      refine so_iald (pc := 16) hX dX10_hasLeaves_16 (ekM hL rfl) (elM hL rfl) hr ?_
      refine so_if_le (pc := 17) hX 35 dX10_hasLeaves_17 (by decide) (fun hc3 => ?_) (fun hc3 => ?_)
      · have h := ip hc3 h
        refine so_iinc (pc := 35) hX dX10_hasLeaves_35 4 (1 : Int32) [(4, .int (v4 + (1 : Int32))), (0, .ref (evA (xV X) 0)), (1, .int v1), (2, .int v2), (3, .int v3)] rfl (by decide) (by rw [hn]; decide) rfl ?_
        refine so_goto (pc := 38) hX 3 dX10_hasLeaves_38 (by decide) ?_
        refine so_sub (pc := 3) (lv' := [(0, .ref (evA (xV X) 0)), (1, .int v1), (2, .int v2), (3, .int v3), (4, .int (v4 + (1 : Int32)))]) [1, 2, 3, 4, 0] rfl ?_
        exact ih _ _ h
      · have h := iq hc3 h
        refine so_iload_n (pc := 20) hX dX10_hasLeaves_20 3 rfl ?_
        refine so_iload (pc := 21) hX dX10_hasLeaves_21 4 rfl ?_
        refine so_iadd (pc := 23) hX dX10_hasLeaves_23 ?_
        refine so_aload_n (pc := 24) hX dX10_hasLeaves_24 0 rfl ?_
        refine so_gR (pc := 25) hX 1 dX10_hasLeaves_25 fl_X10_7 (ekM hL rfl) (erM hL rfl) ?_
        refine so_iload_n (pc := 28) hX dX10_hasLeaves_28 2 rfl ?_
        obtain ⟨e4, hr, h⟩ := ob h
        refine so_iald (pc := 29) hX dX10_hasLeaves_29 (ekM hL rfl) (elM hL rfl) hr ?_
        refine so_icmp_lt (pc := 30) hX 35 dX10_hasLeaves_30 (by decide) (fun hc5 => ?_) (fun hc5 => ?_)
        · have h := ip hc5 h
          refine so_iinc (pc := 35) hX dX10_hasLeaves_35 4 (1 : Int32) [(4, .int (v4 + (1 : Int32))), (0, .ref (evA (xV X) 0)), (1, .int v1), (2, .int v2), (3, .int v3)] rfl (by decide) (by rw [hn]; decide) rfl ?_
          refine so_goto (pc := 38) hX 3 dX10_hasLeaves_38 (by decide) ?_
          refine so_sub (pc := 3) (lv' := [(0, .ref (evA (xV X) 0)), (1, .int v1), (2, .int v2), (3, .int v3), (4, .int (v4 + (1 : Int32)))]) [1, 2, 3, 4, 0] rfl ?_
          exact ih _ _ h
        · have h := iq hc5 h
          refine so_iconst (v := (0 : Int32)) (pc := 33) hX dX10_hasLeaves_33 (by decide) ?_
          exact so_iretH (pc := 34) hX hR h (by decide) dX10_hasLeaves_34
set_option maxHeartbeats 4000000 in
set_option maxRecDepth 100000 in
theorem c_X10_hasLeaves {l : Launch} {V : Ev} (hL : V.2.2.2 = lyM) {v1 : Int32} {v2 : Int32} {v3 : Int32}  {μ : Mem} {rZ : Int32} {μZ : Mem} (h : f_X10_hasLeaves v1 v2 v3 μ = some (rZ, μZ)) : CT l V yX10_hasLeaves cX10_hasLeaves 5 (some .boolean) 2 [.ref (evA V 0), .int v1, .int v2, .int v3] μ μZ (some (.int rZ)) := by
  refine so_met [(0, .ref (evA V 0)), (1, .int v1), (2, .int v2), (3, .int v3)] (by decide) (Nat.le_of_ble_eq_true rfl) (evMn hL) rfl ?_
  intro X hl hV hn hX hR
  subst hl hV
  unfold f_X10_hasLeaves at h
  refine so_iconst (v := (0 : Int32)) (pc := 0) hX dX10_hasLeaves_0 (by decide) ?_
  refine so_istore (pc := 1) hX dX10_hasLeaves_1 [(4, .int (0 : Int32)), (0, .ref (evA (xV X) 0)), (1, .int v1), (2, .int v2), (3, .int v3)] (by rw [hn]; decide) rfl ?_
  refine so_sub (pc := 3) (lv' := [(0, .ref (evA (xV X) 0)), (1, .int v1), (2, .int v2), (3, .int v3), (4, .int (0 : Int32))]) [1, 2, 3, 4, 0] rfl ?_
  refine g_X10_hasLeaves_L3 hX hL hn hR (fun μ6 h => ?_) FU _ _ h
  refine so_aload_n (pc := 41) hX dX10_hasLeaves_41 0 rfl ?_
  refine so_iload_n (pc := 42) hX dX10_hasLeaves_42 1 rfl ?_
  refine so_iload_n (pc := 43) hX dX10_hasLeaves_43 2 rfl ?_
  refine so_iload_n (pc := 44) hX dX10_hasLeaves_44 3 rfl ?_
  obtain ⟨r8, μ7, hr, h⟩ := obd h
  refine so_callV (As := [.int v1, .int v2, .int v3]) (rest := []) (pc := 45) hX dX10_hasLeaves_45 (c_X10_hasTones hL hr) mw_X10_hasTones mv_X10_hasTones ml_X10_301 (ekM hL rfl) (by decide) rfl rfl rfl rfl (by omega) (by decide) (Nat.le_of_ble_eq_true rfl) ?_
  exact so_zretH (pc := 48) hX hR h dX10_hasLeaves_48
set_option maxHeartbeats 4000000 in
set_option maxRecDepth 100000 in
theorem g_X10_places_L47 {X : Cx} (hX : Fx X cX10_places RX10 4) (hL : (xV X).2.2.2 = lyM) (hn : xn X = 6) {rZ : Int32} {μZ : Mem} (hR : Rt X (some .boolean) μZ (some (.int rZ))) {v1 : Int32} {v2 : Int32} {v3 : Int32} {v4 : Int32}  {K : Mem → Option (Int32 × Mem)} (hK : ∀  (μ : Mem), K μ = some (rZ, μZ) → Gd X 96 [(0, .ref (evA (xV X) 0)), (1, .int v1), (2, .int v2), (3, .int v3), (4, .int v4)] [] μ) : ∀ (n : Nat) (v5 : Int32) (μ : Mem), f_X10_places_L47 v1 v2 v3 v4 K n v5 μ = some (rZ, μZ) → Gd X 47 [(0, .ref (evA (xV X) 0)), (1, .int v1), (2, .int v2), (3, .int v3), (4, .int v4), (5, .int v5)] [] μ := by
  intro n
  induction n with
  | zero => intro _ _ h; rw [f_X10_places_L47] at h; cases h
  | succ n ih =>
    intro v5 μ h
    rw [f_X10_places_L47] at h
    refine so_iload (pc := 47) hX dX10_places_47 5 rfl ?_
    refine so_bipush (v := (64 : Int32)) (pc := 49) hX dX10_places_49 (by decide) ?_
    refine so_icmp_ge (pc := 51) hX 96 dX10_places_51 (by decide) (fun hc9 => ?_) (fun hc9 => ?_)
    · have h := ip hc9 h
      refine so_sub (pc := 96) (lv' := [(0, .ref (evA (xV X) 0)), (1, .int v1), (2, .int v2), (3, .int v3), (4, .int v4)]) [0, 1, 2, 3, 4] rfl ?_
      exact hK _ h
    · have h := iq hc9 h
      refine so_aload_n (pc := 54) hX dX10_places_54 0 rfl ?_
      refine so_iload_n (pc := 55) hX dX10_places_55 1 rfl ?_
      refine so_iload_n (pc := 56) hX dX10_places_56 2 rfl ?_
      refine so_iload_n (pc := 57) hX dX10_places_57 3 rfl ?_
      refine so_iload (pc := 58) hX dX10_places_58 4 rfl ?_
      refine so_iload (pc := 60) hX dX10_places_60 5 rfl ?_
      obtain ⟨r11, μ10, hr, h⟩ := obd h
      refine so_callV (As := [.int v1, .int v2, .int v3, .int v4, .int v5]) (rest := []) (pc := 62) hX dX10_places_62 (c_X10_fits hL hr) mw_X10_fits mv_X10_fits ml_X10_311 (ekM hL rfl) (by decide) rfl rfl rfl rfl (by omega) (by decide) (Nat.le_of_ble_eq_true rfl) ?_
      refine so_if_ne (pc := 65) hX 71 dX10_places_65 (by decide) (fun hc12 => ?_) (fun hc12 => ?_)
      · have h := iq hc12 h
        refine so_aload_n (pc := 71) hX dX10_places_71 0 rfl ?_
        refine so_iload_n (pc := 72) hX dX10_places_72 3 rfl ?_
        refine so_pI (pc := 73) hX dX10_places_73 fl_X10_315 fw_10_60 (ekM hL rfl) rfl rfl ?_
        refine so_aload_n (pc := 76) hX dX10_places_76 0 rfl ?_
        refine so_iload (pc := 77) hX dX10_places_77 4 rfl ?_
        refine so_pI (pc := 79) hX dX10_places_79 fl_X10_318 fw_10_61 (ekM hL rfl) rfl rfl ?_
        refine so_aload_n (pc := 82) hX dX10_places_82 0 rfl ?_
        refine so_iload (pc := 83) hX dX10_places_83 5 rfl ?_
        refine so_pI (pc := 85) hX dX10_places_85 fl_X10_321 fw_10_62 (ekM hL rfl) rfl rfl ?_
        refine so_iconst (v := (1 : Int32)) (pc := 88) hX dX10_places_88 (by decide) ?_
        exact so_iretH (pc := 89) hX hR h (by decide) dX10_places_89
      · have h := ip hc12 h
        refine so_goto (pc := 68) hX 90 dX10_places_68 (by decide) ?_
        refine so_iinc (pc := 90) hX dX10_places_90 5 (1 : Int32) [(5, .int (v5 + (1 : Int32))), (0, .ref (evA (xV X) 0)), (1, .int v1), (2, .int v2), (3, .int v3), (4, .int v4)] rfl (by decide) (by rw [hn]; decide) rfl ?_
        refine so_goto (pc := 93) hX 47 dX10_places_93 (by decide) ?_
        refine so_sub (pc := 47) (lv' := [(0, .ref (evA (xV X) 0)), (1, .int v1), (2, .int v2), (3, .int v3), (4, .int v4), (5, .int (v5 + (1 : Int32)))]) [1, 2, 3, 4, 5, 0] rfl ?_
        exact ih _ _ h
set_option maxHeartbeats 4000000 in
set_option maxRecDepth 100000 in
theorem g_X10_places_L33 {X : Cx} (hX : Fx X cX10_places RX10 4) (hL : (xV X).2.2.2 = lyM) (hn : xn X = 6) {rZ : Int32} {μZ : Mem} (hR : Rt X (some .boolean) μZ (some (.int rZ))) {v1 : Int32} {v2 : Int32} {v3 : Int32}  {K : Mem → Option (Int32 × Mem)} (hK : ∀  (μ : Mem), K μ = some (rZ, μZ) → Gd X 102 [(0, .ref (evA (xV X) 0)), (1, .int v1), (2, .int v2), (3, .int v3)] [] μ) : ∀ (n : Nat) (v4 : Int32) (μ : Mem), f_X10_places_L33 v1 v2 v3 K n v4 μ = some (rZ, μZ) → Gd X 33 [(0, .ref (evA (xV X) 0)), (1, .int v1), (2, .int v2), (3, .int v3), (4, .int v4)] [] μ := by
  intro n
  induction n with
  | zero => intro _ _ h; rw [f_X10_places_L33] at h; cases h
  | succ n ih =>
    intro v4 μ h
    rw [f_X10_places_L33] at h
    refine so_iload (pc := 33) hX dX10_places_33 4 rfl ?_
    refine so_aload_n (pc := 35) hX dX10_places_35 0 rfl ?_
    refine so_gR (pc := 36) hX 2 dX10_places_36 fl_X10_13 (ekM hL rfl) (erM hL rfl) ?_
    refine so_iload_n (pc := 39) hX dX10_places_39 2 rfl ?_
    obtain ⟨e7, hr, h⟩ := ob h
    refine so_iald (pc := 40) hX dX10_places_40 (ekM hL rfl) (elM hL rfl) hr ?_
    refine so_icmp_ge (pc := 41) hX 102 dX10_places_41 (by decide) (fun hc8 => ?_) (fun hc8 => ?_)
    · have h := ip hc8 h
      refine so_sub (pc := 102) (lv' := [(0, .ref (evA (xV X) 0)), (1, .int v1), (2, .int v2), (3, .int v3)]) [0, 1, 2, 3] rfl ?_
      exact hK _ h
    · have h := iq hc8 h
      refine so_iconst (v := (0 : Int32)) (pc := 44) hX dX10_places_44 (by decide) ?_
      refine so_istore (pc := 45) hX dX10_places_45 [(5, .int (0 : Int32)), (0, .ref (evA (xV X) 0)), (1, .int v1), (2, .int v2), (3, .int v3), (4, .int v4)] (by rw [hn]; decide) rfl ?_
      refine so_sub (pc := 47) (lv' := [(0, .ref (evA (xV X) 0)), (1, .int v1), (2, .int v2), (3, .int v3), (4, .int v4), (5, .int (0 : Int32))]) [1, 2, 3, 4, 5, 0] rfl ?_
      refine g_X10_places_L47 hX hL hn hR (fun μ13 h => ?_) FU _ _ h
      refine so_iinc (pc := 96) hX dX10_places_96 4 (1 : Int32) [(4, .int (v4 + (1 : Int32))), (0, .ref (evA (xV X) 0)), (1, .int v1), (2, .int v2), (3, .int v3)] rfl (by decide) (by rw [hn]; decide) rfl ?_
      refine so_goto (pc := 99) hX 33 dX10_places_99 (by decide) ?_
      refine so_sub (pc := 33) (lv' := [(0, .ref (evA (xV X) 0)), (1, .int v1), (2, .int v2), (3, .int v3), (4, .int (v4 + (1 : Int32)))]) [1, 2, 3, 4, 0] rfl ?_
      exact ih _ _ h
set_option maxHeartbeats 4000000 in
set_option maxRecDepth 100000 in
theorem g_X10_places_L7 {X : Cx} (hX : Fx X cX10_places RX10 4) (hL : (xV X).2.2.2 = lyM) (hn : xn X = 6) {rZ : Int32} {μZ : Mem} (hR : Rt X (some .boolean) μZ (some (.int rZ))) {v1 : Int32} {v2 : Int32}  {K : Mem → Option (Int32 × Mem)} (hK : ∀  (μ : Mem), K μ = some (rZ, μZ) → Gd X 108 [] [] μ) : ∀ (n : Nat) (v3 : Int32) (μ : Mem), f_X10_places_L7 v1 v2 K n v3 μ = some (rZ, μZ) → Gd X 7 [(0, .ref (evA (xV X) 0)), (1, .int v1), (2, .int v2), (3, .int v3)] [] μ := by
  intro n
  induction n with
  | zero => intro _ _ h; rw [f_X10_places_L7] at h; cases h
  | succ n ih =>
    intro v3 μ h
    rw [f_X10_places_L7] at h
    refine so_iload_n (pc := 7) hX dX10_places_7 3 rfl ?_
    refine so_aload_n (pc := 8) hX dX10_places_8 0 rfl ?_
    refine so_gR (pc := 9) hX 1 dX10_places_9 fl_X10_7 (ekM hL rfl) (erM hL rfl) ?_
    refine so_iload_n (pc := 12) hX dX10_places_12 2 rfl ?_
    obtain ⟨e2, hr, h⟩ := ob h
    refine so_iald (pc := 13) hX dX10_places_13 (ekM hL rfl) (elM hL rfl) hr ?_
    refine so_icmp_ge (pc := 14) hX 108 dX10_places_14 (by decide) (fun hc3 => ?_) (fun hc3 => ?_)
    · have h := ip hc3 h
      refine so_sub (pc := 108) (lv' := []) [] rfl ?_
      exact hK _ h
    · have h := iq hc3 h
      refine so_aload_n (pc := 17) hX dX10_places_17 0 rfl ?_
      refine so_iload_n (pc := 18) hX dX10_places_18 1 rfl ?_
      refine so_iload_n (pc := 19) hX dX10_places_19 2 rfl ?_
      refine so_iload_n (pc := 20) hX dX10_places_20 3 rfl ?_
      obtain ⟨r5, μ4, hr, h⟩ := obd h
      refine so_callV (As := [.int v1, .int v2, .int v3]) (rest := []) (pc := 21) hX dX10_places_21 (c_X10_hasLeaves hL hr) mw_X10_hasLeaves mv_X10_hasLeaves ml_X10_308 (ekM hL rfl) (by decide) rfl rfl rfl rfl (by omega) (by decide) (Nat.le_of_ble_eq_true rfl) ?_
      refine so_if_ne (pc := 24) hX 30 dX10_places_24 (by decide) (fun hc6 => ?_) (fun hc6 => ?_)
      · have h := iq hc6 h
        refine so_iconst (v := (0 : Int32)) (pc := 30) hX dX10_places_30 (by decide) ?_
        refine so_istore (pc := 31) hX dX10_places_31 [(4, .int (0 : Int32)), (0, .ref (evA (xV X) 0)), (1, .int v1), (2, .int v2), (3, .int v3)] (by rw [hn]; decide) rfl ?_
        refine so_sub (pc := 33) (lv' := [(0, .ref (evA (xV X) 0)), (1, .int v1), (2, .int v2), (3, .int v3), (4, .int (0 : Int32))]) [1, 2, 3, 4, 0] rfl ?_
        refine g_X10_places_L33 hX hL hn hR (fun μ14 h => ?_) FU _ _ h
        refine so_iinc (pc := 102) hX dX10_places_102 3 (1 : Int32) [(3, .int (v3 + (1 : Int32))), (0, .ref (evA (xV X) 0)), (1, .int v1), (2, .int v2)] rfl (by decide) (by rw [hn]; decide) rfl ?_
        refine so_goto (pc := 105) hX 7 dX10_places_105 (by decide) ?_
        refine so_sub (pc := 7) (lv' := [(0, .ref (evA (xV X) 0)), (1, .int v1), (2, .int v2), (3, .int (v3 + (1 : Int32)))]) [1, 2, 3, 0] rfl ?_
        exact ih _ _ h
      · have h := ip hc6 h
        refine so_goto (pc := 27) hX 102 dX10_places_27 (by decide) ?_
        refine so_iinc (pc := 102) hX dX10_places_102 3 (1 : Int32) [(3, .int (v3 + (1 : Int32))), (0, .ref (evA (xV X) 0)), (1, .int v1), (2, .int v2)] rfl (by decide) (by rw [hn]; decide) rfl ?_
        refine so_goto (pc := 105) hX 7 dX10_places_105 (by decide) ?_
        refine so_sub (pc := 7) (lv' := [(0, .ref (evA (xV X) 0)), (1, .int v1), (2, .int v2), (3, .int (v3 + (1 : Int32)))]) [1, 2, 3, 0] rfl ?_
        exact ih _ _ h
set_option maxHeartbeats 4000000 in
set_option maxRecDepth 100000 in
theorem c_X10_places {l : Launch} {V : Ev} (hL : V.2.2.2 = lyM) {v1 : Int32} {v2 : Int32}  {μ : Mem} {rZ : Int32} {μZ : Mem} (h : f_X10_places v1 v2 μ = some (rZ, μZ)) : CT l V yX10_places cX10_places 6 (some .boolean) 4 [.ref (evA V 0), .int v1, .int v2] μ μZ (some (.int rZ)) := by
  refine so_met [(0, .ref (evA V 0)), (1, .int v1), (2, .int v2)] (by decide) (Nat.le_of_ble_eq_true rfl) (evMn hL) rfl ?_
  intro X hl hV hn hX hR
  subst hl hV
  unfold f_X10_places at h
  refine so_aload_n (pc := 0) hX dX10_places_0 0 rfl ?_
  refine so_iload_n (pc := 1) hX dX10_places_1 1 rfl ?_
  obtain ⟨μ1, hr, h⟩ := ob h
  refine so_callV (As := [.int v1]) (rest := []) (pc := 2) hX dX10_places_2 (c_X10_counts hL hr) mw_X10_counts mv_X10_counts ml_X10_304 (ekM hL rfl) (by decide) rfl rfl rfl rfl (by omega) (by decide) (Nat.le_of_ble_eq_true rfl) ?_
  refine so_iconst (v := (0 : Int32)) (pc := 5) hX dX10_places_5 (by decide) ?_
  refine so_istore_n (pc := 6) hX dX10_places_6 [(3, .int (0 : Int32)), (0, .ref (evA (xV X) 0)), (1, .int v1), (2, .int v2)] (by rw [hn]; decide) rfl ?_
  refine so_sub (pc := 7) (lv' := [(0, .ref (evA (xV X) 0)), (1, .int v1), (2, .int v2), (3, .int (0 : Int32))]) [1, 2, 3, 0] rfl ?_
  refine g_X10_places_L7 hX hL hn hR (fun μ15 h => ?_) FU _ _ h
  refine so_iconst (v := (0 : Int32)) (pc := 108) hX dX10_places_108 (by decide) ?_
  exact so_iretH (pc := 109) hX hR h (by decide) dX10_places_109
set_option maxHeartbeats 4000000 in
set_option maxRecDepth 100000 in
theorem c_X10_place {l : Launch} {V : Ev} (hL : V.2.2.2 = lyM) {v1 : Int32} {v2 : Int32} {v3 : Int32}  {μ : Mem} {rZ : Int32} {μZ : Mem} (h : f_X10_place v1 v2 v3 μ = some (rZ, μZ)) : CT l V yX10_place cX10_place 4 (some .int) 5 [.ref (evA V 0), .int v1, .int v2, .int v3] μ μZ (some (.int rZ)) := by
  refine so_met [(0, .ref (evA V 0)), (1, .int v1), (2, .int v2), (3, .int v3)] (by decide) (Nat.le_of_ble_eq_true rfl) (evMn hL) rfl ?_
  intro X hl hV hn hX hR
  subst hl hV
  unfold f_X10_place at h
  refine so_aload_n (pc := 0) hX dX10_place_0 0 rfl ?_
  refine so_iload_n (pc := 1) hX dX10_place_1 1 rfl ?_
  obtain ⟨r2, μ1, hr, h⟩ := obd h
  refine so_callV (As := [.int v1]) (rest := []) (pc := 2) hX dX10_place_2 (c_X10_isDoor hL hr) mw_X10_isDoor mv_X10_isDoor ml_X10_276 (ekM hL rfl) (by decide) rfl rfl rfl rfl (by omega) (by decide) (Nat.le_of_ble_eq_true rfl) ?_
  refine so_if_eq (pc := 5) hX 34 dX10_place_5 (by decide) (fun hc3 => ?_) (fun hc3 => ?_)
  · have h := ip hc3 h
    refine so_iconst (v := (-1 : Int32)) (pc := 34) hX dX10_place_34 (by decide) ?_
    exact so_iretH (pc := 35) hX hR h rfl dX10_place_35
  · have h := iq hc3 h
    refine so_aload_n (pc := 8) hX dX10_place_8 0 rfl ?_
    refine so_iload_n (pc := 9) hX dX10_place_9 2 rfl ?_
    obtain ⟨r5, μ4, hr, h⟩ := obd h
    refine so_callV (As := [.int v2]) (rest := []) (pc := 10) hX dX10_place_10 (c_X10_isLog hL hr) mw_X10_isLog mv_X10_isLog ml_X10_167 (ekM hL rfl) (by decide) rfl rfl rfl rfl (by omega) (by decide) (Nat.le_of_ble_eq_true rfl) ?_
    refine so_if_eq (pc := 13) hX 34 dX10_place_13 (by decide) (fun hc6 => ?_) (fun hc6 => ?_)
    · have h := ip hc6 h
      refine so_iconst (v := (-1 : Int32)) (pc := 34) hX dX10_place_34 (by decide) ?_
      exact so_iretH (pc := 35) hX hR h rfl dX10_place_35
    · have h := iq hc6 h
      refine so_iload_n (pc := 16) hX dX10_place_16 3 rfl ?_
      refine so_if_lt (pc := 17) hX 34 dX10_place_17 (by decide) (fun hc7 => ?_) (fun hc7 => ?_)
      · have h := ip hc7 h
        refine so_iconst (v := (-1 : Int32)) (pc := 34) hX dX10_place_34 (by decide) ?_
        exact so_iretH (pc := 35) hX hR h rfl dX10_place_35
      · have h := iq hc7 h
        refine so_iload_n (pc := 20) hX dX10_place_20 3 rfl ?_
        refine so_iconst (v := (2 : Int32)) (pc := 21) hX dX10_place_21 (by decide) ?_
        refine so_icmp_gt (pc := 22) hX 34 dX10_place_22 (by decide) (fun hc8 => ?_) (fun hc8 => ?_)
        · have h := ip hc8 h
          refine so_iconst (v := (-1 : Int32)) (pc := 34) hX dX10_place_34 (by decide) ?_
          exact so_iretH (pc := 35) hX hR h rfl dX10_place_35
        · have h := iq hc8 h
          refine so_aload_n (pc := 25) hX dX10_place_25 0 rfl ?_
          refine so_iload_n (pc := 26) hX dX10_place_26 1 rfl ?_
          refine so_iload_n (pc := 27) hX dX10_place_27 2 rfl ?_
          obtain ⟨r10, μ9, hr, h⟩ := obd h
          refine so_callV (As := [.int v1, .int v2]) (rest := []) (pc := 28) hX dX10_place_28 (c_X10_places hL hr) mw_X10_places mv_X10_places ml_X10_324 (ekM hL rfl) (by decide) rfl rfl rfl rfl (by omega) (by decide) (Nat.le_of_ble_eq_true rfl) ?_
          refine so_if_ne (pc := 31) hX 36 dX10_place_31 (by decide) (fun hc11 => ?_) (fun hc11 => ?_)
          · have h := iq hc11 h
            refine so_iload_n (pc := 36) hX dX10_place_36 3 rfl ?_
            refine so_if_ne (pc := 37) hX 47 dX10_place_37 (by decide) (fun hc12 => ?_) (fun hc12 => ?_)
            · have h := iq hc12 h
              refine so_iload_n (pc := 47) hX dX10_place_47 3 rfl ?_
              refine so_iconst (v := (1 : Int32)) (pc := 48) hX dX10_place_48 (by decide) ?_
              refine so_icmp_ne (pc := 49) hX 59 dX10_place_49 (by decide) (fun hc13 => ?_) (fun hc13 => ?_)
              · have h := iq hc13 h
                refine so_aload_n (pc := 59) hX dX10_place_59 0 rfl ?_
                refine so_gI (pc := 60) hX dX10_place_60 fl_X10_321 (ekM hL rfl) ?_
                exact so_iretH (pc := 63) hX hR h rfl dX10_place_63
              · have h := ip hc13 h
                refine so_aload_n (pc := 52) hX dX10_place_52 0 rfl ?_
                refine so_gI (pc := 53) hX dX10_place_53 fl_X10_318 (ekM hL rfl) ?_
                refine so_goto (pc := 56) hX 63 dX10_place_56 (by decide) ?_
                exact so_iretH (pc := 63) hX hR h rfl dX10_place_63
            · have h := ip hc12 h
              refine so_aload_n (pc := 40) hX dX10_place_40 0 rfl ?_
              refine so_gI (pc := 41) hX dX10_place_41 fl_X10_315 (ekM hL rfl) ?_
              refine so_goto (pc := 44) hX 63 dX10_place_44 (by decide) ?_
              exact so_iretH (pc := 63) hX hR h rfl dX10_place_63
          · have h := ip hc11 h
            refine so_iconst (v := (-1 : Int32)) (pc := 34) hX dX10_place_34 (by decide) ?_
            exact so_iretH (pc := 35) hX hR h rfl dX10_place_35
set_option maxHeartbeats 4000000 in
set_option maxRecDepth 100000 in
theorem g_X10_cuts_L2 {X : Cx} (hX : Fx X cX10_cuts RX10 0) (hL : (xV X).2.2.2 = lyM) (hn : xn X = 4) {μZ : Mem} (hR : Rt X none μZ none) {v1 : Int32} {v2 : Int32}  {K : Mem → Option (Mem)} (hK : ∀  (μ : Mem), K μ = some μZ → Gd X 149 [] [] μ) : ∀ (n : Nat) (v3 : Int32) (μ : Mem), f_X10_cuts_L2 v1 v2 K n v3 μ = some μZ → Gd X 2 [(0, .ref (evA (xV X) 0)), (1, .int v1), (2, .int v2), (3, .int v3)] [] μ := by
  intro n
  induction n with
  | zero => intro _ _ h; rw [f_X10_cuts_L2] at h; cases h
  | succ n ih =>
    intro v3 μ h
    rw [f_X10_cuts_L2] at h
    refine so_iload_n (pc := 2) hX dX10_cuts_2 3 rfl ?_
    refine so_bipush (v := (10 : Int32)) (pc := 3) hX dX10_cuts_3 (by decide) ?_
    refine so_icmp_ge (pc := 5) hX 149 dX10_cuts_5 (by decide) (fun hc1 => ?_) (fun hc1 => ?_)
    · have h := ip hc1 h
      refine so_sub (pc := 149) (lv' := []) [] rfl ?_
      exact hK _ h
    · have h := iq hc1 h
      refine so_aload_n (pc := 8) hX dX10_cuts_8 0 rfl ?_
      refine so_gR (pc := 9) hX 48 dX10_cuts_9 fl_X10_155 (ekM hL rfl) (erM hL rfl) ?_
      refine so_iload_n (pc := 12) hX dX10_cuts_12 3 rfl ?_
      obtain ⟨e2, hr, h⟩ := ob h
      refine so_iald (pc := 13) hX dX10_cuts_13 (ekM hL rfl) (elM hL rfl) hr ?_
      refine so_if_ne (pc := 14) hX 20 dX10_cuts_14 (by decide) (fun hc3 => ?_) (fun hc3 => ?_)
      · have h := iq hc3 h
        refine so_aload_n (pc := 20) hX dX10_cuts_20 0 rfl ?_
        refine so_gR (pc := 21) hX 16 dX10_cuts_21 fl_X10_55 (ekM hL rfl) (erM hL rfl) ?_
        refine so_aload_n (pc := 24) hX dX10_cuts_24 0 rfl ?_
        refine so_gI (pc := 25) hX dX10_cuts_25 fl_X10_171 (ekM hL rfl) ?_
        refine so_iload_n (pc := 28) hX dX10_cuts_28 2 rfl ?_
        obtain ⟨μ4, hr, h⟩ := ob h
        refine so_iast (pc := 29) hX dX10_cuts_29 (ekM hL rfl) (elM hL rfl) hr ?_
        refine so_aload_n (pc := 30) hX dX10_cuts_30 0 rfl ?_
        refine so_gR (pc := 31) hX 17 dX10_cuts_31 fl_X10_58 (ekM hL rfl) (erM hL rfl) ?_
        refine so_aload_n (pc := 34) hX dX10_cuts_34 0 rfl ?_
        refine so_gI (pc := 35) hX dX10_cuts_35 fl_X10_171 (ekM hL rfl) ?_
        refine so_aload_n (pc := 38) hX dX10_cuts_38 0 rfl ?_
        refine so_gI (pc := 39) hX dX10_cuts_39 fl_X10_315 (ekM hL rfl) ?_
        refine so_iload_n (pc := 42) hX dX10_cuts_42 3 rfl ?_
        refine so_iadd (pc := 43) hX dX10_cuts_43 ?_
        obtain ⟨μ5, hr, h⟩ := ob h
        refine so_iast (pc := 44) hX dX10_cuts_44 (ekM hL rfl) (elM hL rfl) hr ?_
        refine so_aload_n (pc := 45) hX dX10_cuts_45 0 rfl ?_
        refine so_gR (pc := 46) hX 18 dX10_cuts_46 fl_X10_61 (ekM hL rfl) (erM hL rfl) ?_
        refine so_aload_n (pc := 49) hX dX10_cuts_49 0 rfl ?_
        refine so_gI (pc := 50) hX dX10_cuts_50 fl_X10_171 (ekM hL rfl) ?_
        refine so_aload_n (pc := 53) hX dX10_cuts_53 0 rfl ?_
        refine so_gI (pc := 54) hX dX10_cuts_54 fl_X10_321 (ekM hL rfl) ?_
        obtain ⟨μ6, hr, h⟩ := ob h
        refine so_iast (pc := 57) hX dX10_cuts_57 (ekM hL rfl) (elM hL rfl) hr ?_
        refine so_aload_n (pc := 58) hX dX10_cuts_58 0 rfl ?_
        refine so_gR (pc := 59) hX 19 dX10_cuts_59 fl_X10_64 (ekM hL rfl) (erM hL rfl) ?_
        refine so_aload_n (pc := 62) hX dX10_cuts_62 0 rfl ?_
        refine so_gI (pc := 63) hX dX10_cuts_63 fl_X10_171 (ekM hL rfl) ?_
        refine so_aload_n (pc := 66) hX dX10_cuts_66 0 rfl ?_
        refine so_gI (pc := 67) hX dX10_cuts_67 fl_X10_318 (ekM hL rfl) ?_
        obtain ⟨μ7, hr, h⟩ := ob h
        refine so_iast (pc := 70) hX dX10_cuts_70 (ekM hL rfl) (elM hL rfl) hr ?_
        refine so_aload_n (pc := 71) hX dX10_cuts_71 0 rfl ?_
        refine so_gR (pc := 72) hX 20 dX10_cuts_72 fl_X10_67 (ekM hL rfl) (erM hL rfl) ?_
        refine so_aload_n (pc := 75) hX dX10_cuts_75 0 rfl ?_
        refine so_gI (pc := 76) hX dX10_cuts_76 fl_X10_171 (ekM hL rfl) ?_
        refine so_aload_n (pc := 79) hX dX10_cuts_79 0 rfl ?_
        refine so_gR (pc := 80) hX 41 dX10_cuts_80 fl_X10_134 (ekM hL rfl) (erM hL rfl) ?_
        refine so_iload_n (pc := 83) hX dX10_cuts_83 1 rfl ?_
        obtain ⟨e8, hr, h⟩ := ob h
        refine so_iald (pc := 84) hX dX10_cuts_84 (ekM hL rfl) (elM hL rfl) hr ?_
        obtain ⟨μ9, hr, h⟩ := ob h
        refine so_iast (pc := 85) hX dX10_cuts_85 (ekM hL rfl) (elM hL rfl) hr ?_
        refine so_aload_n (pc := 86) hX dX10_cuts_86 0 rfl ?_
        refine so_gR (pc := 87) hX 21 dX10_cuts_87 fl_X10_70 (ekM hL rfl) (erM hL rfl) ?_
        refine so_aload_n (pc := 90) hX dX10_cuts_90 0 rfl ?_
        refine so_gI (pc := 91) hX dX10_cuts_91 fl_X10_171 (ekM hL rfl) ?_
        refine so_aload_n (pc := 94) hX dX10_cuts_94 0 rfl ?_
        refine so_gR (pc := 95) hX 48 dX10_cuts_95 fl_X10_155 (ekM hL rfl) (erM hL rfl) ?_
        refine so_iload_n (pc := 98) hX dX10_cuts_98 3 rfl ?_
        obtain ⟨e10, hr, h⟩ := ob h
        refine so_iald (pc := 99) hX dX10_cuts_99 (ekM hL rfl) (elM hL rfl) hr ?_
        refine so_aload_n (pc := 100) hX dX10_cuts_100 0 rfl ?_
        refine so_gR (pc := 101) hX 42 dX10_cuts_101 fl_X10_137 (ekM hL rfl) (erM hL rfl) ?_
        refine so_iload_n (pc := 104) hX dX10_cuts_104 1 rfl ?_
        obtain ⟨e11, hr, h⟩ := ob h
        refine so_iald (pc := 105) hX dX10_cuts_105 (ekM hL rfl) (elM hL rfl) hr ?_
        refine so_imul (pc := 106) hX dX10_cuts_106 ?_
        obtain ⟨μ12, hr, h⟩ := ob h
        refine so_iast (pc := 107) hX dX10_cuts_107 (ekM hL rfl) (elM hL rfl) hr ?_
        refine so_aload_n (pc := 108) hX dX10_cuts_108 0 rfl ?_
        refine so_gR (pc := 109) hX 22 dX10_cuts_109 fl_X10_73 (ekM hL rfl) (erM hL rfl) ?_
        refine so_aload_n (pc := 112) hX dX10_cuts_112 0 rfl ?_
        refine so_gI (pc := 113) hX dX10_cuts_113 fl_X10_171 (ekM hL rfl) ?_
        refine so_aload_n (pc := 116) hX dX10_cuts_116 0 rfl ?_
        refine so_gR (pc := 117) hX 48 dX10_cuts_117 fl_X10_155 (ekM hL rfl) (erM hL rfl) ?_
        refine so_iload_n (pc := 120) hX dX10_cuts_120 3 rfl ?_
        obtain ⟨e13, hr, h⟩ := ob h
        refine so_iald (pc := 121) hX dX10_cuts_121 (ekM hL rfl) (elM hL rfl) hr ?_
        obtain ⟨μ14, hr, h⟩ := ob h
        refine so_iast (pc := 122) hX dX10_cuts_122 (ekM hL rfl) (elM hL rfl) hr ?_
        refine so_aload_n (pc := 123) hX dX10_cuts_123 0 rfl ?_
        refine so_gR (pc := 124) hX 23 dX10_cuts_124 fl_X10_76 (ekM hL rfl) (erM hL rfl) ?_
        refine so_aload_n (pc := 127) hX dX10_cuts_127 0 rfl ?_
        refine so_gI (pc := 128) hX dX10_cuts_128 fl_X10_171 (ekM hL rfl) ?_
        refine so_iload_n (pc := 131) hX dX10_cuts_131 1 rfl ?_
        obtain ⟨μ15, hr, h⟩ := ob h
        refine so_iast (pc := 132) hX dX10_cuts_132 (ekM hL rfl) (elM hL rfl) hr ?_
        refine so_aload_n (pc := 133) hX dX10_cuts_133 0 rfl ?_
        refine so_dup (pc := 134) hX dX10_cuts_134 rfl ?_
        refine so_gI (pc := 135) hX dX10_cuts_135 fl_X10_171 (ekM hL rfl) ?_
        refine so_iconst (v := (1 : Int32)) (pc := 138) hX dX10_cuts_138 (by decide) ?_
        refine so_iadd (pc := 139) hX dX10_cuts_139 ?_
        refine so_pI (pc := 140) hX dX10_cuts_140 fl_X10_171 fw_10_15 (ekM hL rfl) rfl rfl ?_
        refine so_iinc (pc := 143) hX dX10_cuts_143 3 (1 : Int32) [(3, .int (v3 + (1 : Int32))), (0, .ref (evA (xV X) 0)), (1, .int v1), (2, .int v2)] rfl (by decide) (by rw [hn]; decide) rfl ?_
        refine so_goto (pc := 146) hX 2 dX10_cuts_146 (by decide) ?_
        refine so_sub (pc := 2) (lv' := [(0, .ref (evA (xV X) 0)), (1, .int v1), (2, .int v2), (3, .int (v3 + (1 : Int32)))]) [1, 2, 3, 0] rfl ?_
        exact ih _ _ h
      · have h := ip hc3 h
        refine so_goto (pc := 17) hX 143 dX10_cuts_17 (by decide) ?_
        refine so_iinc (pc := 143) hX dX10_cuts_143 3 (1 : Int32) [(3, .int (v3 + (1 : Int32))), (0, .ref (evA (xV X) 0)), (1, .int v1), (2, .int v2)] rfl (by decide) (by rw [hn]; decide) rfl ?_
        refine so_goto (pc := 146) hX 2 dX10_cuts_146 (by decide) ?_
        refine so_sub (pc := 2) (lv' := [(0, .ref (evA (xV X) 0)), (1, .int v1), (2, .int v2), (3, .int (v3 + (1 : Int32)))]) [1, 2, 3, 0] rfl ?_
        exact ih _ _ h
set_option maxHeartbeats 4000000 in
set_option maxRecDepth 100000 in
theorem c_X10_cuts {l : Launch} {V : Ev} (hL : V.2.2.2 = lyM) {v1 : Int32} {v2 : Int32}  {μ : Mem} {μZ : Mem} (h : f_X10_cuts v1 v2 μ = some μZ) : CT l V yX10_cuts cX10_cuts 4 none 0 [.ref (evA V 0), .int v1, .int v2] μ μZ none := by
  refine so_met [(0, .ref (evA V 0)), (1, .int v1), (2, .int v2)] (by decide) (Nat.le_of_ble_eq_true rfl) (evMn hL) rfl ?_
  intro X hl hV hn hX hR
  subst hl hV
  unfold f_X10_cuts at h
  refine so_iconst (v := (0 : Int32)) (pc := 0) hX dX10_cuts_0 (by decide) ?_
  refine so_istore_n (pc := 1) hX dX10_cuts_1 [(3, .int (0 : Int32)), (0, .ref (evA (xV X) 0)), (1, .int v1), (2, .int v2)] (by rw [hn]; decide) rfl ?_
  refine so_sub (pc := 2) (lv' := [(0, .ref (evA (xV X) 0)), (1, .int v1), (2, .int v2), (3, .int (0 : Int32))]) [1, 2, 3, 0] rfl ?_
  refine g_X10_cuts_L2 hX hL hn hR (fun μ16 h => ?_) FU _ _ h
  exact so_vretH (pc := 149) hX hR h dX10_cuts_149
