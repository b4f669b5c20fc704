set_option maxHeartbeats 4000000 in
set_option maxRecDepth 100000 in
theorem c_X10_end {l : Launch} {V : Ev} (hL : V.2.2.2 = lyM) {v1 : Int32}  {μ : Mem} {rZ : Int32} {μZ : Mem} (h : f_X10_end v1 μ = some (rZ, μZ)) : CT l V yX10_end cX10_end 2 (some .boolean) 0 [.ref (evA V 0), .int v1] μ μZ (some (.int rZ)) := by
  refine so_met [(0, .ref (evA V 0)), (1, .int v1)] (by decide) (Nat.le_of_ble_eq_true rfl) (evMn hL) rfl ?_
  intro X hl hV hn hX hR
  subst hl hV
  unfold f_X10_end at h
  refine so_iload_n (pc := 0) hX dX10_end_0 1 rfl ?_
  refine so_if_lt (pc := 1) hX 12 dX10_end_1 (by decide) (fun hc1 => ?_) (fun hc1 => ?_)
  · have h := ip hc1 h
    refine so_iconst (v := (0 : Int32)) (pc := 12) hX dX10_end_12 (by decide) ?_
    exact so_iretH (pc := 13) hX hR h (by decide) dX10_end_13
  · have h := iq hc1 h
    refine so_iload_n (pc := 4) hX dX10_end_4 1 rfl ?_
    refine so_aload_n (pc := 5) hX dX10_end_5 0 rfl ?_
    refine so_gI (pc := 6) hX dX10_end_6 fl_X10_209 (ekM hL rfl) ?_
    refine so_icmp_le (pc := 9) hX 14 dX10_end_9 (by decide) (fun hc2 => ?_) (fun hc2 => ?_)
    · have h := ip hc2 h
      refine so_aload_n (pc := 14) hX dX10_end_14 0 rfl ?_
      refine so_iload_n (pc := 15) hX dX10_end_15 1 rfl ?_
      refine so_pI (pc := 16) hX dX10_end_16 fl_X10_209 fw_10_25 (ekM hL rfl) rfl rfl ?_
      refine so_iconst (v := (1 : Int32)) (pc := 19) hX dX10_end_19 (by decide) ?_
      exact so_iretH (pc := 20) hX hR h (by decide) dX10_end_20
    · have h := iq hc2 h
      refine so_iconst (v := (0 : Int32)) (pc := 12) hX dX10_end_12 (by decide) ?_
      exact so_iretH (pc := 13) hX hR h (by decide) dX10_end_13
set_option maxHeartbeats 4000000 in
set_option maxRecDepth 100000 in
theorem c_X10_fail {l : Launch} {V : Ev} (hL : V.2.2.2 = lyM) {v1 : Int32} {v2 : Int32}  {μ : Mem} {μZ : Mem} (h : f_X10_fail v1 v2 μ = some μZ) : CT l V yX10_fail cX10_fail 3 none 0 [.ref (evA V 0), .int v1, .int v2] μ μZ none := by
  refine so_met [(0, .ref (evA V 0)), (1, .int v1), (2, .int v2)] (by decide) (Nat.le_of_ble_eq_true rfl) (evMn hL) rfl ?_
  intro X hl hV hn hX hR
  subst hl hV
  unfold f_X10_fail at h
  refine so_aload_n (pc := 0) hX dX10_fail_0 0 rfl ?_
  refine so_gI (pc := 1) hX dX10_fail_1 fl_X10_212 (ekM hL rfl) ?_
  refine so_if_eq (pc := 4) hX 8 dX10_fail_4 (by decide) (fun hc1 => ?_) (fun hc1 => ?_)
  · have h := ip hc1 h
    refine so_aload_n (pc := 8) hX dX10_fail_8 0 rfl ?_
    refine so_iload_n (pc := 9) hX dX10_fail_9 1 rfl ?_
    refine so_pI (pc := 10) hX dX10_fail_10 fl_X10_212 fw_10_28 (ekM hL rfl) rfl rfl ?_
    refine so_aload_n (pc := 13) hX dX10_fail_13 0 rfl ?_
    refine so_iload_n (pc := 14) hX dX10_fail_14 2 rfl ?_
    refine so_pI (pc := 15) hX dX10_fail_15 fl_X10_215 fw_10_29 (ekM hL rfl) rfl rfl ?_
    exact so_vretH (pc := 18) hX hR h dX10_fail_18
  · have h := iq hc1 h
    exact so_vretH (pc := 7) hX hR h dX10_fail_7
set_option maxHeartbeats 4000000 in
set_option maxRecDepth 100000 in
theorem g_X10_next_L0 {X : Cx} (hX : Fx X cX10_next RX10 0) (hL : (xV X).2.2.2 = lyM) (hn : xn X = 1) {rZ : Int32} {μZ : Mem} (hR : Rt X (some .int) μZ (some (.int rZ)))   {K : Mem → Option (Int32 × Mem)} (hK : ∀  (μ : Mem), K μ = some (rZ, μZ) → Gd X 52 [(0, .ref (evA (xV X) 0))] [] μ) : ∀ (n : Nat)  (μ : Mem), f_X10_next_L0  K n μ = some (rZ, μZ) → Gd X 0 [(0, .ref (evA (xV X) 0))] [] μ := by
  intro n
  induction n with
  | zero => intro _ h; rw [f_X10_next_L0] at h; cases h
  | succ n ih =>
    intro μ h
    rw [f_X10_next_L0] at h
    refine so_aload_n (pc := 0) hX dX10_next_0 0 rfl ?_
    refine so_gI (pc := 1) hX dX10_next_1 fl_X10_218 (ekM hL rfl) ?_
    refine so_aload_n (pc := 4) hX dX10_next_4 0 rfl ?_
    refine so_gI (pc := 5) hX dX10_next_5 fl_X10_221 (ekM hL rfl) ?_
    refine so_icmp_ge (pc := 8) hX 52 dX10_next_8 (by decide) (fun hc1 => ?_) (fun hc1 => ?_)
    · have h := ip hc1 h
      refine so_sub (pc := 52) (lv' := [(0, .ref (evA (xV X) 0))]) [0] rfl ?_
      exact hK _ h
    · have h := iq hc1 h
      refine so_aload_n (pc := 11) hX dX10_next_11 0 rfl ?_
      refine so_gR (pc := 12) hX 24 dX10_next_12 fl_X10_79 (ekM hL rfl) (erM hL rfl) ?_
      refine so_aload_n (pc := 15) hX dX10_next_15 0 rfl ?_
      refine so_gI (pc := 16) hX dX10_next_16 fl_X10_218 (ekM hL rfl) ?_
      obtain ⟨e2, hr, h⟩ := ob h
      refine so_iald (pc := 19) hX dX10_next_19 (ekM hL rfl) (elM hL rfl) hr ?_
      refine so_bipush (v := (10 : Int32)) (pc := 20) hX dX10_next_20 (by decide) ?_
      refine so_icmp_eq (pc := 22) hX 39 dX10_next_22 (by decide) (fun hc3 => ?_) (fun hc3 => ?_)
      · have h := ip hc3 h
        refine so_aload_n (pc := 39) hX dX10_next_39 0 rfl ?_
        refine so_dup (pc := 40) hX dX10_next_40 rfl ?_
        refine so_gI (pc := 41) hX dX10_next_41 fl_X10_218 (ekM hL rfl) ?_
        refine so_iconst (v := (1 : Int32)) (pc := 44) hX dX10_next_44 (by decide) ?_
        refine so_iadd (pc := 45) hX dX10_next_45 ?_
        refine so_pI (pc := 46) hX dX10_next_46 fl_X10_218 fw_10_26 (ekM hL rfl) rfl rfl ?_
        refine so_goto (pc := 49) hX 0 dX10_next_49 (by decide) ?_
        refine so_sub (pc := 0) (lv' := [(0, .ref (evA (xV X) 0))]) [0] rfl ?_
        exact ih _ h
      · have h := iq hc3 h
        refine so_aload_n (pc := 25) hX dX10_next_25 0 rfl ?_
        refine so_gR (pc := 26) hX 24 dX10_next_26 fl_X10_79 (ekM hL rfl) (erM hL rfl) ?_
        refine so_aload_n (pc := 29) hX dX10_next_29 0 rfl ?_
        refine so_gI (pc := 30) hX dX10_next_30 fl_X10_218 (ekM hL rfl) ?_
        obtain ⟨e4, hr, h⟩ := ob h
        refine so_iald (pc := 33) hX dX10_next_33 (ekM hL rfl) (elM hL rfl) hr ?_
        refine so_bipush (v := (32 : Int32)) (pc := 34) hX dX10_next_34 (by decide) ?_
        refine so_icmp_ne (pc := 36) hX 52 dX10_next_36 (by decide) (fun hc5 => ?_) (fun hc5 => ?_)
        · have h := iq hc5 h
          refine so_sub (pc := 52) (lv' := [(0, .ref (evA (xV X) 0))]) [0] rfl ?_
          exact hK _ h
        · have h := ip hc5 h
          refine so_aload_n (pc := 39) hX dX10_next_39 0 rfl ?_
          refine so_dup (pc := 40) hX dX10_next_40 rfl ?_
          refine so_gI (pc := 41) hX dX10_next_41 fl_X10_218 (ekM hL rfl) ?_
          refine so_iconst (v := (1 : Int32)) (pc := 44) hX dX10_next_44 (by decide) ?_
          refine so_iadd (pc := 45) hX dX10_next_45 ?_
          refine so_pI (pc := 46) hX dX10_next_46 fl_X10_218 fw_10_26 (ekM hL rfl) rfl rfl ?_
          refine so_goto (pc := 49) hX 0 dX10_next_49 (by decide) ?_
          refine so_sub (pc := 0) (lv' := [(0, .ref (evA (xV X) 0))]) [0] rfl ?_
          exact ih _ h
set_option maxHeartbeats 4000000 in
set_option maxRecDepth 100000 in
theorem c_X10_next {l : Launch} {V : Ev} (hL : V.2.2.2 = lyM)   {μ : Mem} {rZ : Int32} {μZ : Mem} (h : f_X10_next  μ = some (rZ, μZ)) : CT l V yX10_next cX10_next 1 (some .int) 0 [.ref (evA V 0)] μ μZ (some (.int rZ)) := by
  refine so_met [(0, .ref (evA V 0))] (by decide) (Nat.le_of_ble_eq_true rfl) (evMn hL) rfl ?_
  intro X hl hV hn hX hR
  subst hl hV
  unfold f_X10_next at h
  refine so_sub (pc := 0) (lv' := [(0, .ref (evA (xV X) 0))]) [0] rfl ?_
  refine g_X10_next_L0 hX hL hn hR (fun μ6 h => ?_) FU _ h
  refine so_aload_n (pc := 52) hX dX10_next_52 0 rfl ?_
  refine so_gI (pc := 53) hX dX10_next_53 fl_X10_218 (ekM hL rfl) ?_
  refine so_aload_n (pc := 56) hX dX10_next_56 0 rfl ?_
  refine so_gI (pc := 57) hX dX10_next_57 fl_X10_221 (ekM hL rfl) ?_
  refine so_icmp_ge (pc := 60) hX 75 dX10_next_60 (by decide) (fun hc7 => ?_) (fun hc7 => ?_)
  · have h := ip hc7 h
    refine so_iconst (v := (-1 : Int32)) (pc := 75) hX dX10_next_75 (by decide) ?_
    exact so_iretH (pc := 76) hX hR h rfl dX10_next_76
  · have h := iq hc7 h
    refine so_aload_n (pc := 63) hX dX10_next_63 0 rfl ?_
    refine so_gR (pc := 64) hX 24 dX10_next_64 fl_X10_79 (ekM hL rfl) (erM hL rfl) ?_
    refine so_aload_n (pc := 67) hX dX10_next_67 0 rfl ?_
    refine so_gI (pc := 68) hX dX10_next_68 fl_X10_218 (ekM hL rfl) ?_
    obtain ⟨e8, hr, h⟩ := ob h
    refine so_iald (pc := 71) hX dX10_next_71 (ekM hL rfl) (elM hL rfl) hr ?_
    refine so_goto (pc := 72) hX 76 dX10_next_72 (by decide) ?_
    exact so_iretH (pc := 76) hX hR h rfl dX10_next_76
set_option maxHeartbeats 4000000 in
set_option maxRecDepth 100000 in
theorem c_X10_begins {l : Launch} {V : Ev} (hL : V.2.2.2 = lyM)   {μ : Mem} {μZ : Mem} (h : f_X10_begins  μ = some μZ) : CT l V yX10_begins cX10_begins 1 none 0 [.ref (evA V 0)] μ μZ none := by
  refine so_met [(0, .ref (evA V 0))] (by decide) (Nat.le_of_ble_eq_true rfl) (evMn hL) rfl ?_
  intro X hl hV hn hX hR
  subst hl hV
  unfold f_X10_begins at h
  refine so_aload_n (pc := 0) hX dX10_begins_0 0 rfl ?_
  refine so_gR (pc := 1) hX 27 dX10_begins_1 fl_X10_92 (ekM hL rfl) (erM hL rfl) ?_
  refine so_aload_n (pc := 4) hX dX10_begins_4 0 rfl ?_
  refine so_gI (pc := 5) hX dX10_begins_5 fl_X10_224 (ekM hL rfl) ?_
  refine so_iconst (v := (0 : Int32)) (pc := 8) hX dX10_begins_8 (by decide) ?_
  obtain ⟨μ1, hr, h⟩ := ob h
  refine so_iast (pc := 9) hX dX10_begins_9 (ekM hL rfl) (elM hL rfl) hr ?_
  refine so_aload_n (pc := 10) hX dX10_begins_10 0 rfl ?_
  refine so_gR (pc := 11) hX 30 dX10_begins_11 fl_X10_101 (ekM hL rfl) (erM hL rfl) ?_
  refine so_aload_n (pc := 14) hX dX10_begins_14 0 rfl ?_
  refine so_gI (pc := 15) hX dX10_begins_15 fl_X10_224 (ekM hL rfl) ?_
  refine so_iconst (v := (0 : Int32)) (pc := 18) hX dX10_begins_18 (by decide) ?_
  obtain ⟨μ2, hr, h⟩ := ob h
  refine so_iast (pc := 19) hX dX10_begins_19 (ekM hL rfl) (elM hL rfl) hr ?_
  refine so_aload_n (pc := 20) hX dX10_begins_20 0 rfl ?_
  refine so_gR (pc := 21) hX 33 dX10_begins_21 fl_X10_110 (ekM hL rfl) (erM hL rfl) ?_
  refine so_aload_n (pc := 24) hX dX10_begins_24 0 rfl ?_
  refine so_gI (pc := 25) hX dX10_begins_25 fl_X10_224 (ekM hL rfl) ?_
  refine so_iconst (v := (-1 : Int32)) (pc := 28) hX dX10_begins_28 (by decide) ?_
  obtain ⟨μ3, hr, h⟩ := ob h
  refine so_iast (pc := 29) hX dX10_begins_29 (ekM hL rfl) (elM hL rfl) hr ?_
  refine so_aload_n (pc := 30) hX dX10_begins_30 0 rfl ?_
  refine so_gR (pc := 31) hX 34 dX10_begins_31 fl_X10_113 (ekM hL rfl) (erM hL rfl) ?_
  refine so_aload_n (pc := 34) hX dX10_begins_34 0 rfl ?_
  refine so_gI (pc := 35) hX dX10_begins_35 fl_X10_224 (ekM hL rfl) ?_
  refine so_iconst (v := (-1 : Int32)) (pc := 38) hX dX10_begins_38 (by decide) ?_
  obtain ⟨μ4, hr, h⟩ := ob h
  refine so_iast (pc := 39) hX dX10_begins_39 (ekM hL rfl) (elM hL rfl) hr ?_
  exact so_vretH (pc := 40) hX hR h dX10_begins_40
set_option maxHeartbeats 4000000 in
set_option maxRecDepth 100000 in
theorem c_X10_opens {l : Launch} {V : Ev} (hL : V.2.2.2 = lyM) {v1 : Int32} {v2 : Int32} {v3 : Int32} {v4 : Int32}  {μ : Mem} {μZ : Mem} (h : f_X10_opens v1 v2 v3 v4 μ = some μZ) : CT l V yX10_opens cX10_opens 5 none 1 [.ref (evA V 0), .int v1, .int v2, .int v3, .int v4] μ μZ none := by
  refine so_met [(0, .ref (evA V 0)), (1, .int v1), (2, .int v2), (3, .int v3), (4, .int v4)] (by decide) (Nat.le_of_ble_eq_true rfl) (evMn hL) rfl ?_
  intro X hl hV hn hX hR
  subst hl hV
  unfold f_X10_opens at h
  refine so_aload_n (pc := 0) hX dX10_opens_0 0 rfl ?_
  refine so_gI (pc := 1) hX dX10_opens_1 fl_X10_227 (ekM hL rfl) ?_
  refine so_bipush (v := (6 : Int32)) (pc := 4) hX dX10_opens_4 (by decide) ?_
  refine so_icmp_ne (pc := 6) hX 16 dX10_opens_6 (by decide) (fun hc1 => ?_) (fun hc1 => ?_)
  · have h := iq hc1 h
    refine so_aload_n (pc := 16) hX dX10_opens_16 0 rfl ?_
    refine so_gR (pc := 17) hX 35 dX10_opens_17 fl_X10_116 (ekM hL rfl) (erM hL rfl) ?_
    refine so_aload_n (pc := 20) hX dX10_opens_20 0 rfl ?_
    refine so_gI (pc := 21) hX dX10_opens_21 fl_X10_227 (ekM hL rfl) ?_
    refine so_iload_n (pc := 24) hX dX10_opens_24 1 rfl ?_
    obtain ⟨μ3, hr, h⟩ := ob h
    refine so_iast (pc := 25) hX dX10_opens_25 (ekM hL rfl) (elM hL rfl) hr ?_
    refine so_aload_n (pc := 26) hX dX10_opens_26 0 rfl ?_
    refine so_gR (pc := 27) hX 36 dX10_opens_27 fl_X10_119 (ekM hL rfl) (erM hL rfl) ?_
    refine so_aload_n (pc := 30) hX dX10_opens_30 0 rfl ?_
    refine so_gI (pc := 31) hX dX10_opens_31 fl_X10_227 (ekM hL rfl) ?_
    refine so_iload_n (pc := 34) hX dX10_opens_34 2 rfl ?_
    obtain ⟨μ4, hr, h⟩ := ob h
    refine so_iast (pc := 35) hX dX10_opens_35 (ekM hL rfl) (elM hL rfl) hr ?_
    refine so_aload_n (pc := 36) hX dX10_opens_36 0 rfl ?_
    refine so_gR (pc := 37) hX 37 dX10_opens_37 fl_X10_122 (ekM hL rfl) (erM hL rfl) ?_
    refine so_aload_n (pc := 40) hX dX10_opens_40 0 rfl ?_
    refine so_gI (pc := 41) hX dX10_opens_41 fl_X10_227 (ekM hL rfl) ?_
    refine so_iload (pc := 44) hX dX10_opens_44 4 rfl ?_
    obtain ⟨μ5, hr, h⟩ := ob h
    refine so_iast (pc := 46) hX dX10_opens_46 (ekM hL rfl) (elM hL rfl) hr ?_
    refine so_aload_n (pc := 47) hX dX10_opens_47 0 rfl ?_
    refine so_dup (pc := 48) hX dX10_opens_48 rfl ?_
    refine so_gI (pc := 49) hX dX10_opens_49 fl_X10_227 (ekM hL rfl) ?_
    refine so_iconst (v := (1 : Int32)) (pc := 52) hX dX10_opens_52 (by decide) ?_
    refine so_iadd (pc := 53) hX dX10_opens_53 ?_
    refine so_pI (pc := 54) hX dX10_opens_54 fl_X10_227 fw_10_45 (ekM hL rfl) rfl rfl ?_
    exact so_vretH (pc := 57) hX hR h dX10_opens_57
  · have h := ip hc1 h
    refine so_aload_n (pc := 9) hX dX10_opens_9 0 rfl ?_
    refine so_iconst (v := (1 : Int32)) (pc := 10) hX dX10_opens_10 (by decide) ?_
    refine so_iload_n (pc := 11) hX dX10_opens_11 3 rfl ?_
    obtain ⟨μ2, hr, h⟩ := ob h
    refine so_callV (As := [.int (1 : Int32), .int v3]) (rest := []) (pc := 12) hX dX10_opens_12 (c_X10_fail hL hr) mw_X10_fail mv_X10_fail ml_X10_230 (ekM hL rfl) (by decide) rfl rfl rfl rfl (by omega) (by decide) (Nat.le_of_ble_eq_true rfl) ?_
    exact so_vretH (pc := 15) hX hR h dX10_opens_15
set_option maxHeartbeats 4000000 in
set_option maxRecDepth 100000 in
theorem g_X10_turns_L2 {X : Cx} (hX : Fx X cX10_turns RX10 0) (hL : (xV X).2.2.2 = lyM) (hn : xn X = 6) {μZ : Mem} (hR : Rt X none μZ none) {v1 : Int32} {v2 : Int32}  {K : Mem → Option (Mem)} (hK : ∀  (μ : Mem), K μ = some μZ → Gd X 26 [(0, .ref (evA (xV X) 0)), (1, .int v1), (2, .int v2)] [] μ) : ∀ (n : Nat) (v3 : Int32) (μ : Mem), f_X10_turns_L2 v1 v2 K n v3 μ = some μZ → Gd X 2 [(0, .ref (evA (xV X) 0)), (1, .int v1), (2, .int v2), (3, .int v3)] [] μ := by
  intro n
  induction n with
  | zero => intro _ _ h; rw [f_X10_turns_L2] at h; cases h
  | succ n ih =>
    intro v3 μ h
    rw [f_X10_turns_L2] at h
    refine so_iload_n (pc := 2) hX dX10_turns_2 3 rfl ?_
    refine so_bipush (v := (64 : Int32)) (pc := 3) hX dX10_turns_3 (by decide) ?_
    refine so_icmp_ge (pc := 5) hX 26 dX10_turns_5 (by decide) (fun hc1 => ?_) (fun hc1 => ?_)
    · have h := ip hc1 h
      refine so_sub (pc := 26) (lv' := [(0, .ref (evA (xV X) 0)), (1, .int v1), (2, .int v2)]) [0, 1, 2] rfl ?_
      exact hK _ h
    · have h := iq hc1 h
      refine so_aload_n (pc := 8) hX dX10_turns_8 0 rfl ?_
      refine so_gR (pc := 9) hX 26 dX10_turns_9 fl_X10_89 (ekM hL rfl) (erM hL rfl) ?_
      refine so_iload_n (pc := 12) hX dX10_turns_12 3 rfl ?_
      refine so_aload_n (pc := 13) hX dX10_turns_13 0 rfl ?_
      refine so_gR (pc := 14) hX 25 dX10_turns_14 fl_X10_86 (ekM hL rfl) (erM hL rfl) ?_
      refine so_iload_n (pc := 17) hX dX10_turns_17 3 rfl ?_
      obtain ⟨e2, hr, h⟩ := ob h
      refine so_iald (pc := 18) hX dX10_turns_18 (ekM hL rfl) (elM hL rfl) hr ?_
      obtain ⟨μ3, hr, h⟩ := ob h
      refine so_iast (pc := 19) hX dX10_turns_19 (ekM hL rfl) (elM hL rfl) hr ?_
      refine so_iinc (pc := 20) hX dX10_turns_20 3 (1 : Int32) [(3, .int (v3 + (1 : Int32))), (0, .ref (evA (xV X) 0)), (1, .int v1), (2, .int v2)] rfl (by decide) (by rw [hn]; decide) rfl ?_
      refine so_goto (pc := 23) hX 2 dX10_turns_23 (by decide) ?_
      refine so_sub (pc := 2) (lv' := [(0, .ref (evA (xV X) 0)), (1, .int v1), (2, .int v2), (3, .int (v3 + (1 : Int32)))]) [1, 2, 3, 0] rfl ?_
      exact ih _ _ h
set_option maxHeartbeats 4000000 in
set_option maxRecDepth 100000 in
theorem g_X10_turns_L39 {X : Cx} (hX : Fx X cX10_turns RX10 0) (hL : (xV X).2.2.2 = lyM) (hn : xn X = 6) {μZ : Mem} (hR : Rt X none μZ none) {v1 : Int32} {v2 : Int32} {v3 : Int32}  {K : Mem → Option (Mem)} (hK : ∀  (μ : Mem), K μ = some μZ → Gd X 135 [(0, .ref (evA (xV X) 0)), (1, .int v1), (2, .int v2), (3, .int v3)] [] μ) : ∀ (n : Nat) (v4 : Int32) (μ : Mem), f_X10_turns_L39 v1 v2 v3 K n v4 μ = some μZ → Gd X 39 [(0, .ref (evA (xV X) 0)), (1, .int v1), (2, .int v2), (3, .int v3), (4, .int v4)] [] μ := by
  intro n
  induction n with
  | zero => intro _ _ h; rw [f_X10_turns_L39] at h; cases h
  | succ n ih =>
    intro v4 μ h
    rw [f_X10_turns_L39] at h
    refine so_iload (pc := 39) hX dX10_turns_39 4 rfl ?_
    refine so_aload_n (pc := 41) hX dX10_turns_41 0 rfl ?_
    refine so_gI (pc := 42) hX dX10_turns_42 fl_X10_236 (ekM hL rfl) ?_
    refine so_icmp_ge (pc := 45) hX 135 dX10_turns_45 (by decide) (fun hc6 => ?_) (fun hc6 => ?_)
    · have h := ip hc6 h
      refine so_sub (pc := 135) (lv' := [(0, .ref (evA (xV X) 0)), (1, .int v1), (2, .int v2), (3, .int v3)]) [0, 1, 2, 3] rfl ?_
      exact hK _ h
    · have h := iq hc6 h
      refine so_aload_n (pc := 48) hX dX10_turns_48 0 rfl ?_
      refine so_gR (pc := 49) hX 26 dX10_turns_49 fl_X10_89 (ekM hL rfl) (erM hL rfl) ?_
      refine so_bipush (v := (8 : Int32)) (pc := 52) hX dX10_turns_52 (by decide) ?_
      refine so_iload_n (pc := 54) hX dX10_turns_54 2 rfl ?_
      refine so_if_eq (pc := 55) hX 69 dX10_turns_55 (by decide) (fun hc7 => ?_) (fun hc7 => ?_)
      · have h := ip hc7 h
        refine so_iload_n (pc := 69) hX dX10_turns_69 3 rfl ?_
        refine so_imul (pc := 70) hX dX10_turns_70 ?_
        refine so_iload_n (pc := 71) hX dX10_turns_71 1 rfl ?_
        refine so_if_eq (pc := 72) hX 87 dX10_turns_72 (by decide) (fun hc8 => ?_) (fun hc8 => ?_)
        · have h := ip hc8 h
          refine so_iload (pc := 87) hX dX10_turns_87 4 rfl ?_
          refine so_iadd (pc := 89) hX dX10_turns_89 ?_
          obtain ⟨e9, hr, h⟩ := ob h
          refine so_iald (pc := 90) hX dX10_turns_90 (ekM hL rfl) (elM hL rfl) hr ?_
          refine so_istore (pc := 91) hX dX10_turns_91 [(5, .int e9), (0, .ref (evA (xV X) 0)), (1, .int v1), (2, .int v2), (3, .int v3), (4, .int v4)] (by rw [hn]; decide) rfl ?_
          refine so_aload_n (pc := 93) hX dX10_turns_93 1 rfl ?_
          refine so_gR (pc := 94) hX 25 dX10_turns_94 fl_X10_86 (ekM hL rfl) (erM hL rfl) ?_
          refine so_bipush (v := (8 : Int32)) (pc := 97) hX dX10_turns_97 (by decide) ?_
          refine so_iload_n (pc := 99) hX dX10_turns_99 4 rfl ?_
          refine so_imul (pc := 100) hX dX10_turns_100 ?_
          refine so_iload (pc := 101) hX dX10_turns_101 5 rfl ?_
          refine so_iadd (pc := 103) hX dX10_turns_103 ?_
          refine so_iload (pc := 104) hX dX10_turns_104 0 rfl ?_
          refine so_iload_n (pc := 106) hX dX10_turns_106 2 rfl ?_
          refine so_if_eq (pc := 107) hX 115 dX10_turns_107 (by decide) (fun _ => ?_) (fun hz => absurd hc8 hz)
          refine so_iconst (v := (0 : Int32)) (pc := 115) hX dX10_turns_115 (by decide) ?_
          refine so_ixor (pc := 116) hX dX10_turns_116 ?_
          refine so_iload_n (pc := 117) hX dX10_turns_117 3 rfl ?_
          refine so_if_eq (pc := 118) hX 126 dX10_turns_118 (by decide) (fun _ => ?_) (fun hz => absurd hc7 hz)
          refine so_iconst (v := (0 : Int32)) (pc := 126) hX dX10_turns_126 (by decide) ?_
          refine so_ixor (pc := 127) hX dX10_turns_127 ?_
          obtain ⟨μ10, hr, h⟩ := ob h
          refine so_iast (pc := 128) hX dX10_turns_128 (ekM hL rfl) (elM hL rfl) hr ?_
          refine so_iinc (pc := 129) hX dX10_turns_129 5 (1 : Int32) [(4, .int (v4 + (1 : Int32))), (5, .int e9), (0, .ref (evA (xV X) 0)), (1, .int v1), (2, .int v2), (3, .int v3)] rfl (by decide) (by rw [hn]; decide) rfl ?_
          refine so_goto (pc := 132) hX 39 dX10_turns_132 (by decide) ?_
          refine so_sub (pc := 39) (lv' := [(0, .ref (evA (xV X) 0)), (1, .int v1), (2, .int v2), (3, .int v3), (4, .int (v4 + (1 : Int32)))]) [2, 3, 4, 5, 0] rfl ?_
          exact ih _ _ h
        · have h := iq hc8 h
          refine so_aload_n (pc := 75) hX dX10_turns_75 0 rfl ?_
          refine so_gI (pc := 76) hX dX10_turns_76 fl_X10_236 (ekM hL rfl) ?_
          refine so_iconst (v := (1 : Int32)) (pc := 79) hX dX10_turns_79 (by decide) ?_
          refine so_isub (pc := 80) hX dX10_turns_80 ?_
          refine so_iload (pc := 81) hX dX10_turns_81 4 rfl ?_
          refine so_isub (pc := 83) hX dX10_turns_83 ?_
          refine so_goto (pc := 84) hX 89 dX10_turns_84 (by decide) ?_
          refine so_iadd (pc := 89) hX dX10_turns_89 ?_
          obtain ⟨e11, hr, h⟩ := ob h
          refine so_iald (pc := 90) hX dX10_turns_90 (ekM hL rfl) (elM hL rfl) hr ?_
          refine so_istore (pc := 91) hX dX10_turns_91 [(5, .int e11), (0, .ref (evA (xV X) 0)), (1, .int v1), (2, .int v2), (3, .int v3), (4, .int v4)] (by rw [hn]; decide) rfl ?_
          refine so_aload_n (pc := 93) hX dX10_turns_93 1 rfl ?_
          refine so_gR (pc := 94) hX 25 dX10_turns_94 fl_X10_86 (ekM hL rfl) (erM hL rfl) ?_
          refine so_bipush (v := (8 : Int32)) (pc := 97) hX dX10_turns_97 (by decide) ?_
          refine so_iload_n (pc := 99) hX dX10_turns_99 4 rfl ?_
          refine so_imul (pc := 100) hX dX10_turns_100 ?_
          refine so_iload (pc := 101) hX dX10_turns_101 5 rfl ?_
          refine so_iadd (pc := 103) hX dX10_turns_103 ?_
          refine so_iload (pc := 104) hX dX10_turns_104 0 rfl ?_
          refine so_iload_n (pc := 106) hX dX10_turns_106 2 rfl ?_
          refine so_if_eq (pc := 107) hX 115 dX10_turns_107 (by decide) (fun hz => absurd hz hc8) (fun _ => ?_)
          refine so_bipush (v := (16 : Int32)) (pc := 110) hX dX10_turns_110 (by decide) ?_
          refine so_goto (pc := 112) hX 116 dX10_turns_112 (by decide) ?_
          refine so_ixor (pc := 116) hX dX10_turns_116 ?_
          refine so_iload_n (pc := 117) hX dX10_turns_117 3 rfl ?_
          refine so_if_eq (pc := 118) hX 126 dX10_turns_118 (by decide) (fun _ => ?_) (fun hz => absurd hc7 hz)
          refine so_iconst (v := (0 : Int32)) (pc := 126) hX dX10_turns_126 (by decide) ?_
          refine so_ixor (pc := 127) hX dX10_turns_127 ?_
          obtain ⟨μ12, hr, h⟩ := ob h
          refine so_iast (pc := 128) hX dX10_turns_128 (ekM hL rfl) (elM hL rfl) hr ?_
          refine so_iinc (pc := 129) hX dX10_turns_129 5 (1 : Int32) [(4, .int (v4 + (1 : Int32))), (5, .int e11), (0, .ref (evA (xV X) 0)), (1, .int v1), (2, .int v2), (3, .int v3)] rfl (by decide) (by rw [hn]; decide) rfl ?_
          refine so_goto (pc := 132) hX 39 dX10_turns_132 (by decide) ?_
          refine so_sub (pc := 39) (lv' := [(0, .ref (evA (xV X) 0)), (1, .int v1), (2, .int v2), (3, .int v3), (4, .int (v4 + (1 : Int32)))]) [2, 3, 4, 5, 0] rfl ?_
          exact ih _ _ h
      · have h := iq hc7 h
        refine so_aload_n (pc := 58) hX dX10_turns_58 0 rfl ?_
        refine so_gI (pc := 59) hX dX10_turns_59 fl_X10_233 (ekM hL rfl) ?_
        refine so_iconst (v := (1 : Int32)) (pc := 62) hX dX10_turns_62 (by decide) ?_
        refine so_isub (pc := 63) hX dX10_turns_63 ?_
        refine so_iload_n (pc := 64) hX dX10_turns_64 3 rfl ?_
        refine so_isub (pc := 65) hX dX10_turns_65 ?_
        refine so_goto (pc := 66) hX 70 dX10_turns_66 (by decide) ?_
        refine so_imul (pc := 70) hX dX10_turns_70 ?_
        refine so_iload_n (pc := 71) hX dX10_turns_71 1 rfl ?_
        refine so_if_eq (pc := 72) hX 87 dX10_turns_72 (by decide) (fun hc13 => ?_) (fun hc13 => ?_)
        · have h := ip hc13 h
          refine so_iload (pc := 87) hX dX10_turns_87 4 rfl ?_
          refine so_iadd (pc := 89) hX dX10_turns_89 ?_
          obtain ⟨e14, hr, h⟩ := ob h
          refine so_iald (pc := 90) hX dX10_turns_90 (ekM hL rfl) (elM hL rfl) hr ?_
          refine so_istore (pc := 91) hX dX10_turns_91 [(5, .int e14), (0, .ref (evA (xV X) 0)), (1, .int v1), (2, .int v2), (3, .int v3), (4, .int v4)] (by rw [hn]; decide) rfl ?_
          refine so_aload_n (pc := 93) hX dX10_turns_93 1 rfl ?_
          refine so_gR (pc := 94) hX 25 dX10_turns_94 fl_X10_86 (ekM hL rfl) (erM hL rfl) ?_
          refine so_bipush (v := (8 : Int32)) (pc := 97) hX dX10_turns_97 (by decide) ?_
          refine so_iload_n (pc := 99) hX dX10_turns_99 4 rfl ?_
          refine so_imul (pc := 100) hX dX10_turns_100 ?_
          refine so_iload (pc := 101) hX dX10_turns_101 5 rfl ?_
          refine so_iadd (pc := 103) hX dX10_turns_103 ?_
          refine so_iload (pc := 104) hX dX10_turns_104 0 rfl ?_
          refine so_iload_n (pc := 106) hX dX10_turns_106 2 rfl ?_
          refine so_if_eq (pc := 107) hX 115 dX10_turns_107 (by decide) (fun _ => ?_) (fun hz => absurd hc13 hz)
          refine so_iconst (v := (0 : Int32)) (pc := 115) hX dX10_turns_115 (by decide) ?_
          refine so_ixor (pc := 116) hX dX10_turns_116 ?_
          refine so_iload_n (pc := 117) hX dX10_turns_117 3 rfl ?_
          refine so_if_eq (pc := 118) hX 126 dX10_turns_118 (by decide) (fun hz => absurd hz hc7) (fun _ => ?_)
          refine so_bipush (v := (32 : Int32)) (pc := 121) hX dX10_turns_121 (by decide) ?_
          refine so_goto (pc := 123) hX 127 dX10_turns_123 (by decide) ?_
          refine so_ixor (pc := 127) hX dX10_turns_127 ?_
          obtain ⟨μ15, hr, h⟩ := ob h
          refine so_iast (pc := 128) hX dX10_turns_128 (ekM hL rfl) (elM hL rfl) hr ?_
          refine so_iinc (pc := 129) hX dX10_turns_129 5 (1 : Int32) [(4, .int (v4 + (1 : Int32))), (5, .int e14), (0, .ref (evA (xV X) 0)), (1, .int v1), (2, .int v2), (3, .int v3)] rfl (by decide) (by rw [hn]; decide) rfl ?_
          refine so_goto (pc := 132) hX 39 dX10_turns_132 (by decide) ?_
          refine so_sub (pc := 39) (lv' := [(0, .ref (evA (xV X) 0)), (1, .int v1), (2, .int v2), (3, .int v3), (4, .int (v4 + (1 : Int32)))]) [2, 3, 4, 5, 0] rfl ?_
          exact ih _ _ h
        · have h := iq hc13 h
          refine so_aload_n (pc := 75) hX dX10_turns_75 0 rfl ?_
          refine so_gI (pc := 76) hX dX10_turns_76 fl_X10_236 (ekM hL rfl) ?_
          refine so_iconst (v := (1 : Int32)) (pc := 79) hX dX10_turns_79 (by decide) ?_
          refine so_isub (pc := 80) hX dX10_turns_80 ?_
          refine so_iload (pc := 81) hX dX10_turns_81 4 rfl ?_
          refine so_isub (pc := 83) hX dX10_turns_83 ?_
          refine so_goto (pc := 84) hX 89 dX10_turns_84 (by decide) ?_
          refine so_iadd (pc := 89) hX dX10_turns_89 ?_
          obtain ⟨e16, hr, h⟩ := ob h
          refine so_iald (pc := 90) hX dX10_turns_90 (ekM hL rfl) (elM hL rfl) hr ?_
          refine so_istore (pc := 91) hX dX10_turns_91 [(5, .int e16), (0, .ref (evA (xV X) 0)), (1, .int v1), (2, .int v2), (3, .int v3), (4, .int v4)] (by rw [hn]; decide) rfl ?_
          refine so_aload_n (pc := 93) hX dX10_turns_93 1 rfl ?_
          refine so_gR (pc := 94) hX 25 dX10_turns_94 fl_X10_86 (ekM hL rfl) (erM hL rfl) ?_
          refine so_bipush (v := (8 : Int32)) (pc := 97) hX dX10_turns_97 (by decide) ?_
          refine so_iload_n (pc := 99) hX dX10_turns_99 4 rfl ?_
          refine so_imul (pc := 100) hX dX10_turns_100 ?_
          refine so_iload (pc := 101) hX dX10_turns_101 5 rfl ?_
          refine so_iadd (pc := 103) hX dX10_turns_103 ?_
          refine so_iload (pc := 104) hX dX10_turns_104 0 rfl ?_
          refine so_iload_n (pc := 106) hX dX10_turns_106 2 rfl ?_
          refine so_if_eq (pc := 107) hX 115 dX10_turns_107 (by decide) (fun hz => absurd hz hc13) (fun _ => ?_)
          refine so_bipush (v := (16 : Int32)) (pc := 110) hX dX10_turns_110 (by decide) ?_
          refine so_goto (pc := 112) hX 116 dX10_turns_112 (by decide) ?_
          refine so_ixor (pc := 116) hX dX10_turns_116 ?_
          refine so_iload_n (pc := 117) hX dX10_turns_117 3 rfl ?_
          refine so_if_eq (pc := 118) hX 126 dX10_turns_118 (by decide) (fun hz => absurd hz hc7) (fun _ => ?_)
          refine so_bipush (v := (32 : Int32)) (pc := 121) hX dX10_turns_121 (by decide) ?_
          refine so_goto (pc := 123) hX 127 dX10_turns_123 (by decide) ?_
          refine so_ixor (pc := 127) hX dX10_turns_127 ?_
          obtain ⟨μ17, hr, h⟩ := ob h
          refine so_iast (pc := 128) hX dX10_turns_128 (ekM hL rfl) (elM hL rfl) hr ?_
          refine so_iinc (pc := 129) hX dX10_turns_129 5 (1 : Int32) [(4, .int (v4 + (1 : Int32))), (5, .int e16), (0, .ref (evA (xV X) 0)), (1, .int v1), (2, .int v2), (3, .int v3)] rfl (by decide) (by rw [hn]; decide) rfl ?_
          refine so_goto (pc := 132) hX 39 dX10_turns_132 (by decide) ?_
          refine so_sub (pc := 39) (lv' := [(0, .ref (evA (xV X) 0)), (1, .int v1), (2, .int v2), (3, .int v3), (4, .int (v4 + (1 : Int32)))]) [2, 3, 4, 5, 0] rfl ?_
          exact ih _ _ h
set_option maxHeartbeats 4000000 in
set_option maxRecDepth 100000 in
theorem g_X10_turns_L28 {X : Cx} (hX : Fx X cX10_turns RX10 0) (hL : (xV X).2.2.2 = lyM) (hn : xn X = 6) {μZ : Mem} (hR : Rt X none μZ none) {v1 : Int32} {v2 : Int32}  {K : Mem → Option (Mem)} (hK : ∀  (μ : Mem), K μ = some μZ → Gd X 141 [] [] μ) : ∀ (n : Nat) (v3 : Int32) (μ : Mem), f_X10_turns_L28 v1 v2 K n v3 μ = some μZ → Gd X 28 [(0, .ref (evA (xV X) 0)), (1, .int v1), (2, .int v2), (3, .int v3)] [] μ := by
  intro n
  induction n with
  | zero => intro _ _ h; rw [f_X10_turns_L28] at h; cases h
  | succ n ih =>
    intro v3 μ h
    rw [f_X10_turns_L28] at h
    refine so_iload_n (pc := 28) hX dX10_turns_28 3 rfl ?_
    refine so_aload_n (pc := 29) hX dX10_turns_29 0 rfl ?_
    refine so_gI (pc := 30) hX dX10_turns_30 fl_X10_233 (ekM hL rfl) ?_
    refine so_icmp_ge (pc := 33) hX 141 dX10_turns_33 (by decide) (fun hc5 => ?_) (fun hc5 => ?_)
    · have h := ip hc5 h
      refine so_sub (pc := 141) (lv' := []) [] rfl ?_
      exact hK _ h
    · have h := iq hc5 h
      refine so_iconst (v := (0 : Int32)) (pc := 36) hX dX10_turns_36 (by decide) ?_
      refine so_istore (pc := 37) hX dX10_turns_37 [(4, .int (0 : Int32)), (0, .ref (evA (xV X) 0)), (1, .int v1), (2, .int v2), (3, .int v3)] (by rw [hn]; decide) rfl ?_
      refine so_sub (pc := 39) (lv' := [(0, .ref (evA (xV X) 0)), (1, .int v1), (2, .int v2), (3, .int v3), (4, .int (0 : Int32))]) [1, 2, 3, 4, 0] rfl ?_
      refine g_X10_turns_L39 hX hL hn hR (fun μ18 h => ?_) FU _ _ h
      refine so_iinc (pc := 135) hX dX10_turns_135 3 (1 : Int32) [(3, .int (v3 + (1 : Int32))), (0, .ref (evA (xV X) 0)), (1, .int v1), (2, .int v2)] rfl (by decide) (by rw [hn]; decide) rfl ?_
      refine so_goto (pc := 138) hX 28 dX10_turns_138 (by decide) ?_
      refine so_sub (pc := 28) (lv' := [(0, .ref (evA (xV X) 0)), (1, .int v1), (2, .int v2), (3, .int (v3 + (1 : Int32)))]) [1, 2, 3, 0] rfl ?_
      exact ih _ _ h
set_option maxHeartbeats 4000000 in
set_option maxRecDepth 100000 in
theorem c_X10_turns {l : Launch} {V : Ev} (hL : V.2.2.2 = lyM) {v1 : Int32} {v2 : Int32}  {μ : Mem} {μZ : Mem} (h : f_X10_turns v1 v2 μ = some μZ) : CT l V yX10_turns cX10_turns 6 none 0 [.ref (evA V 0), .int v1, .int v2] μ μZ none := by
  refine so_met [(0, .ref (evA V 0)), (1, .int v1), (2, .int v2)] (by decide) (Nat.le_of_ble_eq_true rfl) (evMn hL) rfl ?_
  intro X hl hV hn hX hR
  subst hl hV
  unfold f_X10_turns at h
  refine so_iconst (v := (0 : Int32)) (pc := 0) hX dX10_turns_0 (by decide) ?_
  refine so_istore_n (pc := 1) hX dX10_turns_1 [(3, .int (0 : Int32)), (0, .ref (evA (xV X) 0)), (1, .int v1), (2, .int v2)] (by rw [hn]; decide) rfl ?_
  refine so_sub (pc := 2) (lv' := [(0, .ref (evA (xV X) 0)), (1, .int v1), (2, .int v2), (3, .int (0 : Int32))]) [1, 2, 3, 0] rfl ?_
  refine g_X10_turns_L2 hX hL hn hR (fun μ4 h => ?_) FU _ _ h
  refine so_iconst (v := (0 : Int32)) (pc := 26) hX dX10_turns_26 (by decide) ?_
  refine so_istore_n (pc := 27) hX dX10_turns_27 [(3, .int (0 : Int32)), (0, .ref (evA (xV X) 0)), (1, .int v1), (2, .int v2)] (by rw [hn]; decide) rfl ?_
  refine so_sub (pc := 28) (lv' := [(0, .ref (evA (xV X) 0)), (1, .int v1), (2, .int v2), (3, .int (0 : Int32))]) [1, 2, 3, 0] rfl ?_
  refine g_X10_turns_L28 hX hL hn hR (fun μ19 h => ?_) FU _ _ h
  exact so_vretH (pc := 141) hX hR h dX10_turns_141
set_option maxHeartbeats 4000000 in
set_option maxRecDepth 100000 in
theorem g_X10_repeats_L34 {X : Cx} (hX : Fx X cX10_repeats RX10 1) (hL : (xV X).2.2.2 = lyM) (hn : xn X = 5) {μZ : Mem} (hR : Rt X none μZ none) {v1 : Int32} {v3 : Int32}  {K : Mem → Option (Mem)} (hK : ∀  (μ : Mem), K μ = some μZ → Gd X 80 [(0, .ref (evA (xV X) 0)), (1, .int v1), (3, .int v3)] [] μ) : ∀ (n : Nat) (v4 : Int32) (μ : Mem), f_X10_repeats_L34 v1 v3 K n v4 μ = some μZ → Gd X 34 [(0, .ref (evA (xV X) 0)), (1, .int v1), (3, .int v3), (4, .int v4)] [] μ := by
  intro n
  induction n with
  | zero => intro _ _ h; rw [f_X10_repeats_L34] at h; cases h
  | succ n ih =>
    intro v4 μ h
    rw [f_X10_repeats_L34] at h
    refine so_iload (pc := 34) hX dX10_repeats_34 3 rfl ?_
    refine so_iload_n (pc := 36) hX dX10_repeats_36 1 rfl ?_
    refine so_aload_n (pc := 37) hX dX10_repeats_37 0 rfl ?_
    refine so_gI (pc := 38) hX dX10_repeats_38 fl_X10_236 (ekM hL rfl) ?_
    refine so_imul (pc := 41) hX dX10_repeats_41 ?_
    refine so_icmp_ge (pc := 42) hX 80 dX10_repeats_42 (by decide) (fun hc3 => ?_) (fun hc3 => ?_)
    · have h := ip hc3 h
      refine so_sub (pc := 80) (lv' := [(0, .ref (evA (xV X) 0)), (1, .int v1), (3, .int v3)]) [0, 1, 2] rfl ?_
      exact hK _ h
    · have h := iq hc3 h
      refine so_aload_n (pc := 45) hX dX10_repeats_45 0 rfl ?_
      refine so_gR (pc := 46) hX 25 dX10_repeats_46 fl_X10_86 (ekM hL rfl) (erM hL rfl) ?_
      refine so_bipush (v := (8 : Int32)) (pc := 49) hX dX10_repeats_49 (by decide) ?_
      refine so_iload_n (pc := 51) hX dX10_repeats_51 2 rfl ?_
      refine so_imul (pc := 52) hX dX10_repeats_52 ?_
      refine so_iload (pc := 53) hX dX10_repeats_53 3 rfl ?_
      refine so_iadd (pc := 55) hX dX10_repeats_55 ?_
      refine so_aload_n (pc := 56) hX dX10_repeats_56 0 rfl ?_
      refine so_gR (pc := 57) hX 25 dX10_repeats_57 fl_X10_86 (ekM hL rfl) (erM hL rfl) ?_
      refine so_bipush (v := (8 : Int32)) (pc := 60) hX dX10_repeats_60 (by decide) ?_
      refine so_iload_n (pc := 62) hX dX10_repeats_62 2 rfl ?_
      refine so_imul (pc := 63) hX dX10_repeats_63 ?_
      refine so_iload (pc := 64) hX dX10_repeats_64 3 rfl ?_
      refine so_iadd (pc := 66) hX dX10_repeats_66 ?_
      refine so_aload_n (pc := 67) hX dX10_repeats_67 0 rfl ?_
      refine so_gI (pc := 68) hX dX10_repeats_68 fl_X10_236 (ekM hL rfl) ?_
      refine so_isub (pc := 71) hX dX10_repeats_71 ?_
      obtain ⟨e4, hr, h⟩ := ob h
      refine so_iald (pc := 72) hX dX10_repeats_72 (ekM hL rfl) (elM hL rfl) hr ?_
      obtain ⟨μ5, hr, h⟩ := ob h
      refine so_iast (pc := 73) hX dX10_repeats_73 (ekM hL rfl) (elM hL rfl) hr ?_
      refine so_iinc (pc := 74) hX dX10_repeats_74 3 (1 : Int32) [(4, .int (v4 + (1 : Int32))), (0, .ref (evA (xV X) 0)), (1, .int v1), (3, .int v3)] rfl (by decide) (by rw [hn]; decide) rfl ?_
      refine so_goto (pc := 77) hX 34 dX10_repeats_77 (by decide) ?_
      refine so_sub (pc := 34) (lv' := [(0, .ref (evA (xV X) 0)), (1, .int v1), (3, .int v3), (4, .int (v4 + (1 : Int32)))]) [1, 2, 3, 0] rfl ?_
      exact ih _ _ h
set_option maxHeartbeats 4000000 in
set_option maxRecDepth 100000 in
theorem g_X10_repeats_L20 {X : Cx} (hX : Fx X cX10_repeats RX10 1) (hL : (xV X).2.2.2 = lyM) (hn : xn X = 5) {μZ : Mem} (hR : Rt X none μZ none) {v1 : Int32}  {K : Mem → Option (Mem)} (hK : ∀  (μ : Mem), K μ = some μZ → Gd X 86 [(0, .ref (evA (xV X) 0)), (1, .int v1)] [] μ) : ∀ (n : Nat) (v3 : Int32) (μ : Mem), f_X10_repeats_L20 v1 K n v3 μ = some μZ → Gd X 20 [(0, .ref (evA (xV X) 0)), (1, .int v1), (3, .int v3)] [] μ := by
  intro n
  induction n with
  | zero => intro _ _ h; rw [f_X10_repeats_L20] at h; cases h
  | succ n ih =>
    intro v3 μ h
    rw [f_X10_repeats_L20] at h
    refine so_iload_n (pc := 20) hX dX10_repeats_20 2 rfl ?_
    refine so_aload_n (pc := 21) hX dX10_repeats_21 0 rfl ?_
    refine so_gI (pc := 22) hX dX10_repeats_22 fl_X10_233 (ekM hL rfl) ?_
    refine so_icmp_ge (pc := 25) hX 86 dX10_repeats_25 (by decide) (fun hc2 => ?_) (fun hc2 => ?_)
    · have h := ip hc2 h
      refine so_sub (pc := 86) (lv' := [(0, .ref (evA (xV X) 0)), (1, .int v1)]) [0, 1] rfl ?_
      exact hK _ h
    · have h := iq hc2 h
      refine so_aload_n (pc := 28) hX dX10_repeats_28 0 rfl ?_
      refine so_gI (pc := 29) hX dX10_repeats_29 fl_X10_236 (ekM hL rfl) ?_
      refine so_istore (pc := 32) hX dX10_repeats_32 [(4, .int (μ.1 0 32)), (0, .ref (evA (xV X) 0)), (1, .int v1), (3, .int v3)] (by rw [hn]; decide) rfl ?_
      refine so_sub (pc := 34) (lv' := [(0, .ref (evA (xV X) 0)), (1, .int v1), (3, .int v3), (4, .int (μ.1 0 32))]) [1, 2, 3, 0] rfl ?_
      refine g_X10_repeats_L34 hX hL hn hR (fun μ6 h => ?_) FU _ _ h
      refine so_iinc (pc := 80) hX dX10_repeats_80 2 (1 : Int32) [(3, .int (v3 + (1 : Int32))), (0, .ref (evA (xV X) 0)), (1, .int v1)] rfl (by decide) (by rw [hn]; decide) rfl ?_
      refine so_goto (pc := 83) hX 20 dX10_repeats_83 (by decide) ?_
      refine so_sub (pc := 20) (lv' := [(0, .ref (evA (xV X) 0)), (1, .int v1), (3, .int (v3 + (1 : Int32)))]) [1, 2, 0] rfl ?_
      exact ih _ _ h
set_option maxHeartbeats 4000000 in
set_option maxRecDepth 100000 in
theorem c_X10_repeats {l : Launch} {V : Ev} (hL : V.2.2.2 = lyM) {v1 : Int32} {v2 : Int32}  {μ : Mem} {μZ : Mem} (h : f_X10_repeats v1 v2 μ = some μZ) : CT l V yX10_repeats cX10_repeats 5 none 1 [.ref (evA V 0), .int v1, .int v2] μ μZ none := by
  refine so_met [(0, .ref (evA V 0)), (1, .int v1), (2, .int v2)] (by decide) (Nat.le_of_ble_eq_true rfl) (evMn hL) rfl ?_
  intro X hl hV hn hX hR
  subst hl hV
  unfold f_X10_repeats at h
  refine so_iload_n (pc := 0) hX dX10_repeats_0 1 rfl ?_
  refine so_aload_n (pc := 1) hX dX10_repeats_1 0 rfl ?_
  refine so_gI (pc := 2) hX dX10_repeats_2 fl_X10_236 (ekM hL rfl) ?_
  refine so_imul (pc := 5) hX dX10_repeats_5 ?_
  refine so_bipush (v := (8 : Int32)) (pc := 6) hX dX10_repeats_6 (by decide) ?_
  refine so_icmp_le (pc := 8) hX 18 dX10_repeats_8 (by decide) (fun hc1 => ?_) (fun hc1 => ?_)
  · have h := ip hc1 h
    refine so_iconst (v := (0 : Int32)) (pc := 18) hX dX10_repeats_18 (by decide) ?_
    refine so_istore_n (pc := 19) hX dX10_repeats_19 [(3, .int (0 : Int32)), (0, .ref (evA (xV X) 0)), (1, .int v1), (2, .int v2)] (by rw [hn]; decide) rfl ?_
    refine so_sub (pc := 20) (lv' := [(0, .ref (evA (xV X) 0)), (1, .int v1), (3, .int (0 : Int32))]) [1, 2, 0] rfl ?_
    refine g_X10_repeats_L20 hX hL hn hR (fun μ7 h => ?_) FU _ _ h
    refine so_aload_n (pc := 86) hX dX10_repeats_86 0 rfl ?_
    refine so_dup (pc := 87) hX dX10_repeats_87 rfl ?_
    refine so_gI (pc := 88) hX dX10_repeats_88 fl_X10_236 (ekM hL rfl) ?_
    refine so_iload_n (pc := 91) hX dX10_repeats_91 1 rfl ?_
    refine so_imul (pc := 92) hX dX10_repeats_92 ?_
    refine so_pI (pc := 93) hX dX10_repeats_93 fl_X10_236 fw_10_32 (ekM hL rfl) rfl rfl ?_
    exact so_vretH (pc := 96) hX hR h dX10_repeats_96
  · have h := iq hc1 h
    refine so_aload_n (pc := 11) hX dX10_repeats_11 0 rfl ?_
    refine so_iconst (v := (3 : Int32)) (pc := 12) hX dX10_repeats_12 (by decide) ?_
    refine so_iload_n (pc := 13) hX dX10_repeats_13 2 rfl ?_
    obtain ⟨μ8, hr, h⟩ := ob h
    refine so_callV (As := [.int (3 : Int32), .int v2]) (rest := []) (pc := 14) hX dX10_repeats_14 (c_X10_fail hL hr) mw_X10_fail mv_X10_fail ml_X10_230 (ekM hL rfl) (by decide) rfl rfl rfl rfl (by omega) (by decide) (Nat.le_of_ble_eq_true rfl) ?_
    exact so_vretH (pc := 17) hX hR h dX10_repeats_17
set_option maxHeartbeats 4000000 in
set_option maxRecDepth 100000 in
theorem g_X10_comes_L0 {X : Cx} (hX : Fx X cX10_comes RX10 2) (hL : (xV X).2.2.2 = lyM) (hn : xn X = 5) {μZ : Mem} (hR : Rt X none μZ none)   {K : Mem → Option (Mem)} (hK : ∀  (μ : Mem), K μ = some μZ → Gd X 106 [(0, .ref (evA (xV X) 0))] [] μ) : ∀ (n : Nat)  (μ : Mem), f_X10_comes_L0  K n μ = some μZ → Gd X 0 [(0, .ref (evA (xV X) 0))] [] μ := by
  intro n
  induction n with
  | zero => intro _ h; rw [f_X10_comes_L0] at h; cases h
  | succ n ih =>
    intro μ h
    rw [f_X10_comes_L0] at h
    refine so_aload_n (pc := 0) hX dX10_comes_0 0 rfl ?_
    refine so_gI (pc := 1) hX dX10_comes_1 fl_X10_212 (ekM hL rfl) ?_
    refine so_if_ne (pc := 4) hX 106 dX10_comes_4 (by decide) (fun hc1 => ?_) (fun hc1 => ?_)
    · have h := iq hc1 h
      refine so_sub (pc := 106) (lv' := [(0, .ref (evA (xV X) 0))]) [0] rfl ?_
      exact hK _ h
    · have h := ip hc1 h
      refine so_aload_n (pc := 7) hX dX10_comes_7 0 rfl ?_
      refine so_gI (pc := 8) hX dX10_comes_8 fl_X10_227 (ekM hL rfl) ?_
      refine so_if_le (pc := 11) hX 106 dX10_comes_11 (by decide) (fun hc2 => ?_) (fun hc2 => ?_)
      · have h := ip hc2 h
        refine so_sub (pc := 106) (lv' := [(0, .ref (evA (xV X) 0))]) [0] rfl ?_
        exact hK _ h
      · have h := iq hc2 h
        refine so_aload_n (pc := 14) hX dX10_comes_14 0 rfl ?_
        refine so_gR (pc := 15) hX 35 dX10_comes_15 fl_X10_116 (ekM hL rfl) (erM hL rfl) ?_
        refine so_aload_n (pc := 18) hX dX10_comes_18 0 rfl ?_
        refine so_gI (pc := 19) hX dX10_comes_19 fl_X10_227 (ekM hL rfl) ?_
        refine so_iconst (v := (1 : Int32)) (pc := 22) hX dX10_comes_22 (by decide) ?_
        refine so_isub (pc := 23) hX dX10_comes_23 ?_
        obtain ⟨e3, hr, h⟩ := ob h
        refine so_iald (pc := 24) hX dX10_comes_24 (ekM hL rfl) (elM hL rfl) hr ?_
        refine so_bipush (v := (40 : Int32)) (pc := 25) hX dX10_comes_25 (by decide) ?_
        refine so_icmp_eq (pc := 27) hX 106 dX10_comes_27 (by decide) (fun hc4 => ?_) (fun hc4 => ?_)
        · have h := ip hc4 h
          refine so_sub (pc := 106) (lv' := [(0, .ref (evA (xV X) 0))]) [0] rfl ?_
          exact hK _ h
        · have h := iq hc4 h
          refine so_aload_n (pc := 30) hX dX10_comes_30 0 rfl ?_
          refine so_dup (pc := 31) hX dX10_comes_31 rfl ?_
          refine so_gI (pc := 32) hX dX10_comes_32 fl_X10_227 (ekM hL rfl) ?_
          refine so_iconst (v := (1 : Int32)) (pc := 35) hX dX10_comes_35 (by decide) ?_
          refine so_isub (pc := 36) hX dX10_comes_36 ?_
          refine so_pI (pc := 37) hX dX10_comes_37 fl_X10_227 fw_10_45 (ekM hL rfl) rfl rfl ?_
          refine so_aload_n (pc := 40) hX dX10_comes_40 0 rfl ?_
          refine so_gR (pc := 41) hX 35 dX10_comes_41 fl_X10_116 (ekM hL rfl) (erM hL rfl) ?_
          refine so_aload_n (pc := 44) hX dX10_comes_44 0 rfl ?_
          refine so_gI (pc := 45) hX dX10_comes_45 fl_X10_227 (ekM hL rfl) ?_
          obtain ⟨e5, hr, h⟩ := ob h
          refine so_iald (pc := 48) hX dX10_comes_48 (ekM hL rfl) (elM hL rfl) hr ?_
          refine so_bipush (v := (120 : Int32)) (pc := 49) hX dX10_comes_49 (by decide) ?_
          refine so_icmp_ne (pc := 51) hX 79 dX10_comes_51 (by decide) (fun hc6 => ?_) (fun hc6 => ?_)
          · have h := iq hc6 h
            refine so_aload_n (pc := 79) hX dX10_comes_79 0 rfl ?_
            refine so_iconst (v := (1 : Int32)) (pc := 80) hX dX10_comes_80 (by decide) ?_
            refine so_aload_n (pc := 81) hX dX10_comes_81 0 rfl ?_
            refine so_gR (pc := 82) hX 35 dX10_comes_82 fl_X10_116 (ekM hL rfl) (erM hL rfl) ?_
            refine so_aload_n (pc := 85) hX dX10_comes_85 0 rfl ?_
            refine so_gI (pc := 86) hX dX10_comes_86 fl_X10_227 (ekM hL rfl) ?_
            obtain ⟨e10, hr, h⟩ := ob h
            refine so_iald (pc := 89) hX dX10_comes_89 (ekM hL rfl) (elM hL rfl) hr ?_
            refine so_bipush (v := (126 : Int32)) (pc := 90) hX dX10_comes_90 (by decide) ?_
            refine so_icmp_ne (pc := 92) hX 99 dX10_comes_92 (by decide) (fun hc11 => ?_) (fun hc11 => ?_)
            · have h := iq hc11 h
              refine so_iconst (v := (0 : Int32)) (pc := 99) hX dX10_comes_99 (by decide) ?_
              obtain ⟨μ13, hr, h⟩ := ob h
              refine so_callV (As := [.int (1 : Int32), .int (0 : Int32)]) (rest := []) (pc := 100) hX dX10_comes_100 (c_X10_turns hL hr) mw_X10_turns mv_X10_turns ml_X10_242 (ekM hL rfl) (by decide) rfl rfl rfl rfl (by omega) (by decide) (Nat.le_of_ble_eq_true rfl) ?_
              refine so_goto (pc := 103) hX 0 dX10_comes_103 (by decide) ?_
              refine so_sub (pc := 0) (lv' := [(0, .ref (evA (xV X) 0))]) [0] rfl ?_
              exact ih _ h
            · have h := ip hc11 h
              refine so_iconst (v := (1 : Int32)) (pc := 95) hX dX10_comes_95 (by decide) ?_
              refine so_goto (pc := 96) hX 100 dX10_comes_96 (by decide) ?_
              obtain ⟨μ12, hr, h⟩ := ob h
              refine so_callV (As := [.int (1 : Int32), .int (1 : Int32)]) (rest := []) (pc := 100) hX dX10_comes_100 (c_X10_turns hL hr) mw_X10_turns mv_X10_turns ml_X10_242 (ekM hL rfl) (by decide) rfl rfl rfl rfl (by omega) (by decide) (Nat.le_of_ble_eq_true rfl) ?_
              refine so_goto (pc := 103) hX 0 dX10_comes_103 (by decide) ?_
              refine so_sub (pc := 0) (lv' := [(0, .ref (evA (xV X) 0))]) [0] rfl ?_
              exact ih _ h
          · have h := ip hc6 h
            refine so_aload_n (pc := 54) hX dX10_comes_54 0 rfl ?_
            refine so_aload_n (pc := 55) hX dX10_comes_55 0 rfl ?_
            refine so_gR (pc := 56) hX 36 dX10_comes_56 fl_X10_119 (ekM hL rfl) (erM hL rfl) ?_
            refine so_aload_n (pc := 59) hX dX10_comes_59 0 rfl ?_
            refine so_gI (pc := 60) hX dX10_comes_60 fl_X10_227 (ekM hL rfl) ?_
            obtain ⟨e7, hr, h⟩ := ob h
            refine so_iald (pc := 63) hX dX10_comes_63 (ekM hL rfl) (elM hL rfl) hr ?_
            refine so_aload_n (pc := 64) hX dX10_comes_64 0 rfl ?_
            refine so_gR (pc := 65) hX 37 dX10_comes_65 fl_X10_122 (ekM hL rfl) (erM hL rfl) ?_
            refine so_aload_n (pc := 68) hX dX10_comes_68 0 rfl ?_
            refine so_gI (pc := 69) hX dX10_comes_69 fl_X10_227 (ekM hL rfl) ?_
            obtain ⟨e8, hr, h⟩ := ob h
            refine so_iald (pc := 72) hX dX10_comes_72 (ekM hL rfl) (elM hL rfl) hr ?_
            obtain ⟨μ9, hr, h⟩ := ob h
            refine so_callV (As := [.int e7, .int e8]) (rest := []) (pc := 73) hX dX10_comes_73 (c_X10_repeats hL hr) mw_X10_repeats mv_X10_repeats ml_X10_239 (ekM hL rfl) (by decide) rfl rfl rfl rfl (by omega) (by decide) (Nat.le_of_ble_eq_true rfl) ?_
            refine so_goto (pc := 76) hX 0 dX10_comes_76 (by decide) ?_
            refine so_sub (pc := 0) (lv' := [(0, .ref (evA (xV X) 0))]) [0] rfl ?_
            exact ih _ h
set_option maxHeartbeats 4000000 in
set_option maxRecDepth 100000 in
theorem g_X10_comes_L231 {X : Cx} (hX : Fx X cX10_comes RX10 2) (hL : (xV X).2.2.2 = lyM) (hn : xn X = 5) {μZ : Mem} (hR : Rt X none μZ none) {v1 : Int32} {v2 : Int32} {v3 : Int32}  {K : Mem → Option (Mem)} (hK : ∀  (μ : Mem), K μ = some μZ → Gd X 274 [(0, .ref (evA (xV X) 0)), (1, .int v1), (2, .int v2), (3, .int v3)] [] μ) : ∀ (n : Nat) (v4 : Int32) (μ : Mem), f_X10_comes_L231 v1 v2 v3 K n v4 μ = some μZ → Gd X 231 [(0, .ref (evA (xV X) 0)), (1, .int v1), (2, .int v2), (3, .int v3), (4, .int v4)] [] μ := by
  intro n
  induction n with
  | zero => intro _ _ h; rw [f_X10_comes_L231] at h; cases h
  | succ n ih =>
    intro v4 μ h
    rw [f_X10_comes_L231] at h
    refine so_iload (pc := 231) hX dX10_comes_231 4 rfl ?_
    refine so_aload_n (pc := 233) hX dX10_comes_233 0 rfl ?_
    refine so_gI (pc := 234) hX dX10_comes_234 fl_X10_236 (ekM hL rfl) ?_
    refine so_icmp_ge (pc := 237) hX 274 dX10_comes_237 (by decide) (fun hc20 => ?_) (fun hc20 => ?_)
    · have h := ip hc20 h
      refine so_sub (pc := 274) (lv' := [(0, .ref (evA (xV X) 0)), (1, .int v1), (2, .int v2), (3, .int v3)]) [0, 1, 2, 3] rfl ?_
      exact hK _ h
    · have h := iq hc20 h
      refine so_aload_n (pc := 240) hX dX10_comes_240 0 rfl ?_
      refine so_gR (pc := 241) hX 32 dX10_comes_241 fl_X10_107 (ekM hL rfl) (erM hL rfl) ?_
      refine so_iload_n (pc := 244) hX dX10_comes_244 1 rfl ?_
      refine so_bipush (v := (8 : Int32)) (pc := 245) hX dX10_comes_245 (by decide) ?_
      refine so_iload_n (pc := 247) hX dX10_comes_247 2 rfl ?_
      refine so_iload_n (pc := 248) hX dX10_comes_248 3 rfl ?_
      refine so_iadd (pc := 249) hX dX10_comes_249 ?_
      refine so_imul (pc := 250) hX dX10_comes_250 ?_
      refine so_iadd (pc := 251) hX dX10_comes_251 ?_
      refine so_iload (pc := 252) hX dX10_comes_252 4 rfl ?_
      refine so_iadd (pc := 254) hX dX10_comes_254 ?_
      refine so_aload_n (pc := 255) hX dX10_comes_255 0 rfl ?_
      refine so_gR (pc := 256) hX 25 dX10_comes_256 fl_X10_86 (ekM hL rfl) (erM hL rfl) ?_
      refine so_bipush (v := (8 : Int32)) (pc := 259) hX dX10_comes_259 (by decide) ?_
      refine so_iload_n (pc := 261) hX dX10_comes_261 3 rfl ?_
      refine so_imul (pc := 262) hX dX10_comes_262 ?_
      refine so_iload (pc := 263) hX dX10_comes_263 4 rfl ?_
      refine so_iadd (pc := 265) hX dX10_comes_265 ?_
      obtain ⟨e21, hr, h⟩ := ob h
      refine so_iald (pc := 266) hX dX10_comes_266 (ekM hL rfl) (elM hL rfl) hr ?_
      obtain ⟨μ22, hr, h⟩ := ob h
      refine so_iast (pc := 267) hX dX10_comes_267 (ekM hL rfl) (elM hL rfl) hr ?_
      refine so_iinc (pc := 268) hX dX10_comes_268 4 (1 : Int32) [(4, .int (v4 + (1 : Int32))), (0, .ref (evA (xV X) 0)), (1, .int v1), (2, .int v2), (3, .int v3)] rfl (by decide) (by rw [hn]; decide) rfl ?_
      refine so_goto (pc := 271) hX 231 dX10_comes_271 (by decide) ?_
      refine so_sub (pc := 231) (lv' := [(0, .ref (evA (xV X) 0)), (1, .int v1), (2, .int v2), (3, .int v3), (4, .int (v4 + (1 : Int32)))]) [1, 2, 3, 4, 0] rfl ?_
      exact ih _ _ h
set_option maxHeartbeats 4000000 in
set_option maxRecDepth 100000 in
theorem g_X10_comes_L220 {X : Cx} (hX : Fx X cX10_comes RX10 2) (hL : (xV X).2.2.2 = lyM) (hn : xn X = 5) {μZ : Mem} (hR : Rt X none μZ none) {v1 : Int32} {v2 : Int32}  {K : Mem → Option (Mem)} (hK : ∀  (μ : Mem), K μ = some μZ → Gd X 280 [(0, .ref (evA (xV X) 0)), (2, .int v2)] [] μ) : ∀ (n : Nat) (v3 : Int32) (μ : Mem), f_X10_comes_L220 v1 v2 K n v3 μ = some μZ → Gd X 220 [(0, .ref (evA (xV X) 0)), (1, .int v1), (2, .int v2), (3, .int v3)] [] μ := by
  intro n
  induction n with
  | zero => intro _ _ h; rw [f_X10_comes_L220] at h; cases h
  | succ n ih =>
    intro v3 μ h
    rw [f_X10_comes_L220] at h
    refine so_iload_n (pc := 220) hX dX10_comes_220 3 rfl ?_
    refine so_aload_n (pc := 221) hX dX10_comes_221 0 rfl ?_
    refine so_gI (pc := 222) hX dX10_comes_222 fl_X10_233 (ekM hL rfl) ?_
    refine so_icmp_ge (pc := 225) hX 280 dX10_comes_225 (by decide) (fun hc19 => ?_) (fun hc19 => ?_)
    · have h := ip hc19 h
      refine so_sub (pc := 280) (lv' := [(0, .ref (evA (xV X) 0)), (2, .int v2)]) [0, 2] rfl ?_
      exact hK _ h
    · have h := iq hc19 h
      refine so_iconst (v := (0 : Int32)) (pc := 228) hX dX10_comes_228 (by decide) ?_
      refine so_istore (pc := 229) hX dX10_comes_229 [(4, .int (0 : Int32)), (0, .ref (evA (xV X) 0)), (1, .int v1), (2, .int v2), (3, .int v3)] (by rw [hn]; decide) rfl ?_
      refine so_sub (pc := 231) (lv' := [(0, .ref (evA (xV X) 0)), (1, .int v1), (2, .int v2), (3, .int v3), (4, .int (0 : Int32))]) [1, 2, 3, 4, 0] rfl ?_
      refine g_X10_comes_L231 hX hL hn hR (fun μ23 h => ?_) FU _ _ h
      refine so_iinc (pc := 274) hX dX10_comes_274 3 (1 : Int32) [(3, .int (v3 + (1 : Int32))), (0, .ref (evA (xV X) 0)), (1, .int v1), (2, .int v2)] rfl (by decide) (by rw [hn]; decide) rfl ?_
      refine so_goto (pc := 277) hX 220 dX10_comes_277 (by decide) ?_
      refine so_sub (pc := 220) (lv' := [(0, .ref (evA (xV X) 0)), (1, .int v1), (2, .int v2), (3, .int (v3 + (1 : Int32)))]) [1, 2, 3, 0] rfl ?_
      exact ih _ _ h
set_option maxHeartbeats 4000000 in
set_option maxRecDepth 100000 in
theorem c_X10_comes {l : Launch} {V : Ev} (hL : V.2.2.2 = lyM)   {μ : Mem} {μZ : Mem} (h : f_X10_comes  μ = some μZ) : CT l V yX10_comes cX10_comes 5 none 2 [.ref (evA V 0)] μ μZ none := by
  refine so_met [(0, .ref (evA V 0))] (by decide) (Nat.le_of_ble_eq_true rfl) (evMn hL) rfl ?_
  intro X hl hV hn hX hR
  subst hl hV
  unfold f_X10_comes at h
  refine so_sub (pc := 0) (lv' := [(0, .ref (evA (xV X) 0))]) [0] rfl ?_
  refine g_X10_comes_L0 hX hL hn hR (fun μ14 h => ?_) FU _ h
  refine so_aload_n (pc := 106) hX dX10_comes_106 0 rfl ?_
  refine so_gI (pc := 107) hX dX10_comes_107 fl_X10_212 (ekM hL rfl) ?_
  refine so_if_eq (pc := 110) hX 114 dX10_comes_110 (by decide) (fun hc15 => ?_) (fun hc15 => ?_)
  · have h := ip hc15 h
    refine so_bipush (v := (64 : Int32)) (pc := 114) hX dX10_comes_114 (by decide) ?_
    refine so_aload_n (pc := 116) hX dX10_comes_116 0 rfl ?_
    refine so_gI (pc := 117) hX dX10_comes_117 fl_X10_224 (ekM hL rfl) ?_
    refine so_imul (pc := 120) hX dX10_comes_120 ?_
    refine so_istore_n (pc := 121) hX dX10_comes_121 [(1, .int ((64 : Int32) * (μ14.1 0 44))), (0, .ref (evA (xV X) 0))] (by rw [hn]; decide) rfl ?_
    refine so_aload_n (pc := 122) hX dX10_comes_122 1 rfl ?_
    refine so_gR (pc := 123) hX 30 dX10_comes_123 fl_X10_101 (ekM hL rfl) (erM hL rfl) ?_
    refine so_aload_n (pc := 126) hX dX10_comes_126 1 rfl ?_
    refine so_gI (pc := 127) hX dX10_comes_127 fl_X10_224 (ekM hL rfl) ?_
    obtain ⟨e16, hr, h⟩ := ob h
    refine so_iald (pc := 130) hX dX10_comes_130 (ekM hL rfl) (elM hL rfl) hr ?_
    refine so_if_ne (pc := 131) hX 138 dX10_comes_131 (by decide) (fun hc17 => ?_) (fun hc17 => ?_)
    · have h := iq hc17 h
      refine so_aload_n (pc := 138) hX dX10_comes_138 1 rfl ?_
      refine so_gR (pc := 139) hX 31 dX10_comes_139 fl_X10_104 (ekM hL rfl) (erM hL rfl) ?_
      refine so_aload_n (pc := 142) hX dX10_comes_142 1 rfl ?_
      refine so_gI (pc := 143) hX dX10_comes_143 fl_X10_224 (ekM hL rfl) ?_
      obtain ⟨e33, hr, h⟩ := ob h
      refine so_iald (pc := 146) hX dX10_comes_146 (ekM hL rfl) (elM hL rfl) hr ?_
      refine so_istore_n (pc := 147) hX dX10_comes_147 [(2, .int e33), (1, .int ((64 : Int32) * (μ14.1 0 44))), (0, .ref (evA (xV X) 0))] (by rw [hn]; decide) rfl ?_
      refine so_iload_n (pc := 148) hX dX10_comes_148 0 rfl ?_
      refine so_if_le (pc := 149) hX 185 dX10_comes_149 (by decide) (fun hc34 => ?_) (fun hc34 => ?_)
      · have h := ip hc34 h
        refine so_iload_n (pc := 185) hX dX10_comes_185 0 rfl ?_
        refine so_aload_n (pc := 186) hX dX10_comes_186 2 rfl ?_
        refine so_gI (pc := 187) hX dX10_comes_187 fl_X10_233 (ekM hL rfl) ?_
        refine so_iadd (pc := 190) hX dX10_comes_190 ?_
        refine so_bipush (v := (8 : Int32)) (pc := 191) hX dX10_comes_191 (by decide) ?_
        refine so_icmp_le (pc := 193) hX 210 dX10_comes_193 (by decide) (fun hc35 => ?_) (fun hc35 => ?_)
        · have h := ip hc35 h
          refine so_aload_n (pc := 210) hX dX10_comes_210 2 rfl ?_
          refine so_gI (pc := 211) hX dX10_comes_211 fl_X10_212 (ekM hL rfl) ?_
          refine so_if_eq (pc := 214) hX 218 dX10_comes_214 (by decide) (fun _ => ?_) (fun hz => absurd hc15 hz)
          refine so_iconst (v := (0 : Int32)) (pc := 218) hX dX10_comes_218 (by decide) ?_
          refine so_istore_n (pc := 219) hX dX10_comes_219 [(3, .int (0 : Int32)), (2, .int e33), (1, .int ((64 : Int32) * (μ14.1 0 44))), (0, .ref (evA (xV X) 0))] (by rw [hn]; decide) rfl ?_
          refine so_sub (pc := 220) (lv' := [(0, .ref (evA (xV X) 0)), (1, .int ((64 : Int32) * (μ14.1 0 44))), (2, .int e33), (3, .int (0 : Int32))]) [3, 2, 1, 0] rfl ?_
          refine g_X10_comes_L220 hX hL hn hR (fun μ36 h => ?_) FU _ _ h
          refine so_aload_n (pc := 280) hX dX10_comes_280 0 rfl ?_
          refine so_gR (pc := 281) hX 30 dX10_comes_281 fl_X10_101 (ekM hL rfl) (erM hL rfl) ?_
          refine so_aload_n (pc := 284) hX dX10_comes_284 0 rfl ?_
          refine so_gI (pc := 285) hX dX10_comes_285 fl_X10_224 (ekM hL rfl) ?_
          refine so_aload_n (pc := 288) hX dX10_comes_288 0 rfl ?_
          refine so_gI (pc := 289) hX dX10_comes_289 fl_X10_236 (ekM hL rfl) ?_
          obtain ⟨μ37, hr, h⟩ := ob h
          refine so_iast (pc := 292) hX dX10_comes_292 (ekM hL rfl) (elM hL rfl) hr ?_
          refine so_aload_n (pc := 293) hX dX10_comes_293 0 rfl ?_
          refine so_gR (pc := 294) hX 31 dX10_comes_294 fl_X10_104 (ekM hL rfl) (erM hL rfl) ?_
          refine so_aload_n (pc := 297) hX dX10_comes_297 0 rfl ?_
          refine so_gI (pc := 298) hX dX10_comes_298 fl_X10_224 (ekM hL rfl) ?_
          refine so_iload_n (pc := 301) hX dX10_comes_301 1 rfl ?_
          refine so_aload_n (pc := 302) hX dX10_comes_302 0 rfl ?_
          refine so_gI (pc := 303) hX dX10_comes_303 fl_X10_233 (ekM hL rfl) ?_
          refine so_iadd (pc := 306) hX dX10_comes_306 ?_
          obtain ⟨μ38, hr, h⟩ := ob h
          refine so_iast (pc := 307) hX dX10_comes_307 (ekM hL rfl) (elM hL rfl) hr ?_
          exact so_vretH (pc := 308) hX hR h dX10_comes_308
        · have h := iq hc35 h
          refine so_aload_n (pc := 196) hX dX10_comes_196 2 rfl ?_
          refine so_iconst (v := (3 : Int32)) (pc := 197) hX dX10_comes_197 (by decide) ?_
          refine so_aload_n (pc := 198) hX dX10_comes_198 2 rfl ?_
          refine so_gR (pc := 199) hX 34 dX10_comes_199 fl_X10_113 (ekM hL rfl) (erM hL rfl) ?_
          refine so_aload_n (pc := 202) hX dX10_comes_202 2 rfl ?_
          refine so_gI (pc := 203) hX dX10_comes_203 fl_X10_224 (ekM hL rfl) ?_
          obtain ⟨e39, hr, h⟩ := ob h
          refine so_iald (pc := 206) hX dX10_comes_206 (ekM hL rfl) (elM hL rfl) hr ?_
          obtain ⟨μ40, hr, h⟩ := ob h
          refine so_callV (As := [.int (3 : Int32), .int e39]) (rest := []) (pc := 207) hX dX10_comes_207 (c_X10_fail hL hr) mw_X10_fail mv_X10_fail ml_X10_230 (ekM hL rfl) (by decide) rfl rfl rfl rfl (by omega) (by decide) (Nat.le_of_ble_eq_true rfl) ?_
          refine so_aload_n (pc := 210) hX dX10_comes_210 2 rfl ?_
          refine so_gI (pc := 211) hX dX10_comes_211 fl_X10_212 (ekM hL rfl) ?_
          refine so_if_eq (pc := 214) hX 218 dX10_comes_214 (by decide) (fun hc41 => ?_) (fun hc41 => ?_)
          · have h := ip hc41 h
            refine so_iconst (v := (0 : Int32)) (pc := 218) hX dX10_comes_218 (by decide) ?_
            refine so_istore_n (pc := 219) hX dX10_comes_219 [(3, .int (0 : Int32)), (2, .int e33), (1, .int ((64 : Int32) * (μ14.1 0 44))), (0, .ref (evA (xV X) 0))] (by rw [hn]; decide) rfl ?_
            refine so_sub (pc := 220) (lv' := [(0, .ref (evA (xV X) 0)), (1, .int ((64 : Int32) * (μ14.1 0 44))), (2, .int e33), (3, .int (0 : Int32))]) [3, 2, 1, 0] rfl ?_
            refine g_X10_comes_L220 hX hL hn hR (fun μ42 h => ?_) FU _ _ h
            refine so_aload_n (pc := 280) hX dX10_comes_280 0 rfl ?_
            refine so_gR (pc := 281) hX 30 dX10_comes_281 fl_X10_101 (ekM hL rfl) (erM hL rfl) ?_
            refine so_aload_n (pc := 284) hX dX10_comes_284 0 rfl ?_
            refine so_gI (pc := 285) hX dX10_comes_285 fl_X10_224 (ekM hL rfl) ?_
            refine so_aload_n (pc := 288) hX dX10_comes_288 0 rfl ?_
            refine so_gI (pc := 289) hX dX10_comes_289 fl_X10_236 (ekM hL rfl) ?_
            obtain ⟨μ43, hr, h⟩ := ob h
            refine so_iast (pc := 292) hX dX10_comes_292 (ekM hL rfl) (elM hL rfl) hr ?_
            refine so_aload_n (pc := 293) hX dX10_comes_293 0 rfl ?_
            refine so_gR (pc := 294) hX 31 dX10_comes_294 fl_X10_104 (ekM hL rfl) (erM hL rfl) ?_
            refine so_aload_n (pc := 297) hX dX10_comes_297 0 rfl ?_
            refine so_gI (pc := 298) hX dX10_comes_298 fl_X10_224 (ekM hL rfl) ?_
            refine so_iload_n (pc := 301) hX dX10_comes_301 1 rfl ?_
            refine so_aload_n (pc := 302) hX dX10_comes_302 0 rfl ?_
            refine so_gI (pc := 303) hX dX10_comes_303 fl_X10_233 (ekM hL rfl) ?_
            refine so_iadd (pc := 306) hX dX10_comes_306 ?_
            obtain ⟨μ44, hr, h⟩ := ob h
            refine so_iast (pc := 307) hX dX10_comes_307 (ekM hL rfl) (elM hL rfl) hr ?_
            exact so_vretH (pc := 308) hX hR h dX10_comes_308
          · have h := iq hc41 h
            exact so_vretH (pc := 217) hX hR h dX10_comes_217
      · have h := iq hc34 h
        refine so_aload_n (pc := 152) hX dX10_comes_152 2 rfl ?_
        refine so_gR (pc := 153) hX 30 dX10_comes_153 fl_X10_101 (ekM hL rfl) (erM hL rfl) ?_
        refine so_aload_n (pc := 156) hX dX10_comes_156 2 rfl ?_
        refine so_gI (pc := 157) hX dX10_comes_157 fl_X10_224 (ekM hL rfl) ?_
        obtain ⟨e45, hr, h⟩ := ob h
        refine so_iald (pc := 160) hX dX10_comes_160 (ekM hL rfl) (elM hL rfl) hr ?_
        refine so_aload_n (pc := 161) hX dX10_comes_161 2 rfl ?_
        refine so_gI (pc := 162) hX dX10_comes_162 fl_X10_236 (ekM hL rfl) ?_
        refine so_icmp_eq (pc := 165) hX 185 dX10_comes_165 (by decide) (fun hc46 => ?_) (fun hc46 => ?_)
        · have h := ip hc46 h
          refine so_iload_n (pc := 185) hX dX10_comes_185 0 rfl ?_
          refine so_aload_n (pc := 186) hX dX10_comes_186 2 rfl ?_
          refine so_gI (pc := 187) hX dX10_comes_187 fl_X10_233 (ekM hL rfl) ?_
          refine so_iadd (pc := 190) hX dX10_comes_190 ?_
          refine so_bipush (v := (8 : Int32)) (pc := 191) hX dX10_comes_191 (by decide) ?_
          refine so_icmp_le (pc := 193) hX 210 dX10_comes_193 (by decide) (fun hc47 => ?_) (fun hc47 => ?_)
          · have h := ip hc47 h
            refine so_aload_n (pc := 210) hX dX10_comes_210 2 rfl ?_
            refine so_gI (pc := 211) hX dX10_comes_211 fl_X10_212 (ekM hL rfl) ?_
            refine so_if_eq (pc := 214) hX 218 dX10_comes_214 (by decide) (fun _ => ?_) (fun hz => absurd hc15 hz)
            refine so_iconst (v := (0 : Int32)) (pc := 218) hX dX10_comes_218 (by decide) ?_
            refine so_istore_n (pc := 219) hX dX10_comes_219 [(3, .int (0 : Int32)), (2, .int e33), (1, .int ((64 : Int32) * (μ14.1 0 44))), (0, .ref (evA (xV X) 0))] (by rw [hn]; decide) rfl ?_
            refine so_sub (pc := 220) (lv' := [(0, .ref (evA (xV X) 0)), (1, .int ((64 : Int32) * (μ14.1 0 44))), (2, .int e33), (3, .int (0 : Int32))]) [3, 2, 1, 0] rfl ?_
            refine g_X10_comes_L220 hX hL hn hR (fun μ48 h => ?_) FU _ _ h
            refine so_aload_n (pc := 280) hX dX10_comes_280 0 rfl ?_
            refine so_gR (pc := 281) hX 30 dX10_comes_281 fl_X10_101 (ekM hL rfl) (erM hL rfl) ?_
            refine so_aload_n (pc := 284) hX dX10_comes_284 0 rfl ?_
            refine so_gI (pc := 285) hX dX10_comes_285 fl_X10_224 (ekM hL rfl) ?_
            refine so_aload_n (pc := 288) hX dX10_comes_288 0 rfl ?_
            refine so_gI (pc := 289) hX dX10_comes_289 fl_X10_236 (ekM hL rfl) ?_
            obtain ⟨μ49, hr, h⟩ := ob h
            refine so_iast (pc := 292) hX dX10_comes_292 (ekM hL rfl) (elM hL rfl) hr ?_
            refine so_aload_n (pc := 293) hX dX10_comes_293 0 rfl ?_
            refine so_gR (pc := 294) hX 31 dX10_comes_294 fl_X10_104 (ekM hL rfl) (erM hL rfl) ?_
            refine so_aload_n (pc := 297) hX dX10_comes_297 0 rfl ?_
            refine so_gI (pc := 298) hX dX10_comes_298 fl_X10_224 (ekM hL rfl) ?_
            refine so_iload_n (pc := 301) hX dX10_comes_301 1 rfl ?_
            refine so_aload_n (pc := 302) hX dX10_comes_302 0 rfl ?_
            refine so_gI (pc := 303) hX dX10_comes_303 fl_X10_233 (ekM hL rfl) ?_
            refine so_iadd (pc := 306) hX dX10_comes_306 ?_
            obtain ⟨μ50, hr, h⟩ := ob h
            refine so_iast (pc := 307) hX dX10_comes_307 (ekM hL rfl) (elM hL rfl) hr ?_
            exact so_vretH (pc := 308) hX hR h dX10_comes_308
          · have h := iq hc47 h
            refine so_aload_n (pc := 196) hX dX10_comes_196 2 rfl ?_
            refine so_iconst (v := (3 : Int32)) (pc := 197) hX dX10_comes_197 (by decide) ?_
            refine so_aload_n (pc := 198) hX dX10_comes_198 2 rfl ?_
            refine so_gR (pc := 199) hX 34 dX10_comes_199 fl_X10_113 (ekM hL rfl) (erM hL rfl) ?_
            refine so_aload_n (pc := 202) hX dX10_comes_202 2 rfl ?_
            refine so_gI (pc := 203) hX dX10_comes_203 fl_X10_224 (ekM hL rfl) ?_
            obtain ⟨e51, hr, h⟩ := ob h
            refine so_iald (pc := 206) hX dX10_comes_206 (ekM hL rfl) (elM hL rfl) hr ?_
            obtain ⟨μ52, hr, h⟩ := ob h
            refine so_callV (As := [.int (3 : Int32), .int e51]) (rest := []) (pc := 207) hX dX10_comes_207 (c_X10_fail hL hr) mw_X10_fail mv_X10_fail ml_X10_230 (ekM hL rfl) (by decide) rfl rfl rfl rfl (by omega) (by decide) (Nat.le_of_ble_eq_true rfl) ?_
            refine so_aload_n (pc := 210) hX dX10_comes_210 2 rfl ?_
            refine so_gI (pc := 211) hX dX10_comes_211 fl_X10_212 (ekM hL rfl) ?_
            refine so_if_eq (pc := 214) hX 218 dX10_comes_214 (by decide) (fun hc53 => ?_) (fun hc53 => ?_)
            · have h := ip hc53 h
              refine so_iconst (v := (0 : Int32)) (pc := 218) hX dX10_comes_218 (by decide) ?_
              refine so_istore_n (pc := 219) hX dX10_comes_219 [(3, .int (0 : Int32)), (2, .int e33), (1, .int ((64 : Int32) * (μ14.1 0 44))), (0, .ref (evA (xV X) 0))] (by rw [hn]; decide) rfl ?_
              refine so_sub (pc := 220) (lv' := [(0, .ref (evA (xV X) 0)), (1, .int ((64 : Int32) * (μ14.1 0 44))), (2, .int e33), (3, .int (0 : Int32))]) [3, 2, 1, 0] rfl ?_
              refine g_X10_comes_L220 hX hL hn hR (fun μ54 h => ?_) FU _ _ h
              refine so_aload_n (pc := 280) hX dX10_comes_280 0 rfl ?_
              refine so_gR (pc := 281) hX 30 dX10_comes_281 fl_X10_101 (ekM hL rfl) (erM hL rfl) ?_
              refine so_aload_n (pc := 284) hX dX10_comes_284 0 rfl ?_
              refine so_gI (pc := 285) hX dX10_comes_285 fl_X10_224 (ekM hL rfl) ?_
              refine so_aload_n (pc := 288) hX dX10_comes_288 0 rfl ?_
              refine so_gI (pc := 289) hX dX10_comes_289 fl_X10_236 (ekM hL rfl) ?_
              obtain ⟨μ55, hr, h⟩ := ob h
              refine so_iast (pc := 292) hX dX10_comes_292 (ekM hL rfl) (elM hL rfl) hr ?_
              refine so_aload_n (pc := 293) hX dX10_comes_293 0 rfl ?_
              refine so_gR (pc := 294) hX 31 dX10_comes_294 fl_X10_104 (ekM hL rfl) (erM hL rfl) ?_
              refine so_aload_n (pc := 297) hX dX10_comes_297 0 rfl ?_
              refine so_gI (pc := 298) hX dX10_comes_298 fl_X10_224 (ekM hL rfl) ?_
              refine so_iload_n (pc := 301) hX dX10_comes_301 1 rfl ?_
              refine so_aload_n (pc := 302) hX dX10_comes_302 0 rfl ?_
              refine so_gI (pc := 303) hX dX10_comes_303 fl_X10_233 (ekM hL rfl) ?_
              refine so_iadd (pc := 306) hX dX10_comes_306 ?_
              obtain ⟨μ56, hr, h⟩ := ob h
              refine so_iast (pc := 307) hX dX10_comes_307 (ekM hL rfl) (elM hL rfl) hr ?_
              exact so_vretH (pc := 308) hX hR h dX10_comes_308
            · have h := iq hc53 h
              exact so_vretH (pc := 217) hX hR h dX10_comes_217
        · have h := iq hc46 h
          refine so_aload_n (pc := 168) hX dX10_comes_168 2 rfl ?_
          refine so_iconst (v := (2 : Int32)) (pc := 169) hX dX10_comes_169 (by decide) ?_
          refine so_aload_n (pc := 170) hX dX10_comes_170 2 rfl ?_
          refine so_gR (pc := 171) hX 34 dX10_comes_171 fl_X10_113 (ekM hL rfl) (erM hL rfl) ?_
          refine so_aload_n (pc := 174) hX dX10_comes_174 2 rfl ?_
          refine so_gI (pc := 175) hX dX10_comes_175 fl_X10_224 (ekM hL rfl) ?_
          obtain ⟨e57, hr, h⟩ := ob h
          refine so_iald (pc := 178) hX dX10_comes_178 (ekM hL rfl) (elM hL rfl) hr ?_
          obtain ⟨μ58, hr, h⟩ := ob h
          refine so_callV (As := [.int (2 : Int32), .int e57]) (rest := []) (pc := 179) hX dX10_comes_179 (c_X10_fail hL hr) mw_X10_fail mv_X10_fail ml_X10_230 (ekM hL rfl) (by decide) rfl rfl rfl rfl (by omega) (by decide) (Nat.le_of_ble_eq_true rfl) ?_
          refine so_goto (pc := 182) hX 210 dX10_comes_182 (by decide) ?_
          refine so_aload_n (pc := 210) hX dX10_comes_210 2 rfl ?_
          refine so_gI (pc := 211) hX dX10_comes_211 fl_X10_212 (ekM hL rfl) ?_
          refine so_if_eq (pc := 214) hX 218 dX10_comes_214 (by decide) (fun hc59 => ?_) (fun hc59 => ?_)
          · have h := ip hc59 h
            refine so_iconst (v := (0 : Int32)) (pc := 218) hX dX10_comes_218 (by decide) ?_
            refine so_istore_n (pc := 219) hX dX10_comes_219 [(3, .int (0 : Int32)), (2, .int e33), (1, .int ((64 : Int32) * (μ14.1 0 44))), (0, .ref (evA (xV X) 0))] (by rw [hn]; decide) rfl ?_
            refine so_sub (pc := 220) (lv' := [(0, .ref (evA (xV X) 0)), (1, .int ((64 : Int32) * (μ14.1 0 44))), (2, .int e33), (3, .int (0 : Int32))]) [3, 2, 1, 0] rfl ?_
            refine g_X10_comes_L220 hX hL hn hR (fun μ60 h => ?_) FU _ _ h
            refine so_aload_n (pc := 280) hX dX10_comes_280 0 rfl ?_
            refine so_gR (pc := 281) hX 30 dX10_comes_281 fl_X10_101 (ekM hL rfl) (erM hL rfl) ?_
            refine so_aload_n (pc := 284) hX dX10_comes_284 0 rfl ?_
            refine so_gI (pc := 285) hX dX10_comes_285 fl_X10_224 (ekM hL rfl) ?_
            refine so_aload_n (pc := 288) hX dX10_comes_288 0 rfl ?_
            refine so_gI (pc := 289) hX dX10_comes_289 fl_X10_236 (ekM hL rfl) ?_
            obtain ⟨μ61, hr, h⟩ := ob h
            refine so_iast (pc := 292) hX dX10_comes_292 (ekM hL rfl) (elM hL rfl) hr ?_
            refine so_aload_n (pc := 293) hX dX10_comes_293 0 rfl ?_
            refine so_gR (pc := 294) hX 31 dX10_comes_294 fl_X10_104 (ekM hL rfl) (erM hL rfl) ?_
            refine so_aload_n (pc := 297) hX dX10_comes_297 0 rfl ?_
            refine so_gI (pc := 298) hX dX10_comes_298 fl_X10_224 (ekM hL rfl) ?_
            refine so_iload_n (pc := 301) hX dX10_comes_301 1 rfl ?_
            refine so_aload_n (pc := 302) hX dX10_comes_302 0 rfl ?_
            refine so_gI (pc := 303) hX dX10_comes_303 fl_X10_233 (ekM hL rfl) ?_
            refine so_iadd (pc := 306) hX dX10_comes_306 ?_
            obtain ⟨μ62, hr, h⟩ := ob h
            refine so_iast (pc := 307) hX dX10_comes_307 (ekM hL rfl) (elM hL rfl) hr ?_
            exact so_vretH (pc := 308) hX hR h dX10_comes_308
          · have h := iq hc59 h
            exact so_vretH (pc := 217) hX hR h dX10_comes_217
    · have h := ip hc17 h
      refine so_iconst (v := (0 : Int32)) (pc := 134) hX dX10_comes_134 (by decide) ?_
      refine so_goto (pc := 135) hX 147 dX10_comes_135 (by decide) ?_
      refine so_istore_n (pc := 147) hX dX10_comes_147 [(2, .int (0 : Int32)), (1, .int ((64 : Int32) * (μ14.1 0 44))), (0, .ref (evA (xV X) 0))] (by rw [hn]; decide) rfl ?_
      refine so_iload_n (pc := 148) hX dX10_comes_148 0 rfl ?_
      refine so_if_le (pc := 149) hX 185 dX10_comes_149 (by decide) (fun _ => ?_) (fun hz => absurd hz (by decide))
      refine so_iload_n (pc := 185) hX dX10_comes_185 0 rfl ?_
      refine so_aload_n (pc := 186) hX dX10_comes_186 2 rfl ?_
      refine so_gI (pc := 187) hX dX10_comes_187 fl_X10_233 (ekM hL rfl) ?_
      refine so_iadd (pc := 190) hX dX10_comes_190 ?_
      refine so_bipush (v := (8 : Int32)) (pc := 191) hX dX10_comes_191 (by decide) ?_
      refine so_icmp_le (pc := 193) hX 210 dX10_comes_193 (by decide) (fun hc18 => ?_) (fun hc18 => ?_)
      · have h := ip hc18 h
        refine so_aload_n (pc := 210) hX dX10_comes_210 2 rfl ?_
        refine so_gI (pc := 211) hX dX10_comes_211 fl_X10_212 (ekM hL rfl) ?_
        refine so_if_eq (pc := 214) hX 218 dX10_comes_214 (by decide) (fun _ => ?_) (fun hz => absurd hc15 hz)
        refine so_iconst (v := (0 : Int32)) (pc := 218) hX dX10_comes_218 (by decide) ?_
        refine so_istore_n (pc := 219) hX dX10_comes_219 [(3, .int (0 : Int32)), (2, .int (0 : Int32)), (1, .int ((64 : Int32) * (μ14.1 0 44))), (0, .ref (evA (xV X) 0))] (by rw [hn]; decide) rfl ?_
        refine so_sub (pc := 220) (lv' := [(0, .ref (evA (xV X) 0)), (1, .int ((64 : Int32) * (μ14.1 0 44))), (2, .int (0 : Int32)), (3, .int (0 : Int32))]) [3, 2, 1, 0] rfl ?_
        refine g_X10_comes_L220 hX hL hn hR (fun μ24 h => ?_) FU _ _ h
        refine so_aload_n (pc := 280) hX dX10_comes_280 0 rfl ?_
        refine so_gR (pc := 281) hX 30 dX10_comes_281 fl_X10_101 (ekM hL rfl) (erM hL rfl) ?_
        refine so_aload_n (pc := 284) hX dX10_comes_284 0 rfl ?_
        refine so_gI (pc := 285) hX dX10_comes_285 fl_X10_224 (ekM hL rfl) ?_
        refine so_aload_n (pc := 288) hX dX10_comes_288 0 rfl ?_
        refine so_gI (pc := 289) hX dX10_comes_289 fl_X10_236 (ekM hL rfl) ?_
        obtain ⟨μ25, hr, h⟩ := ob h
        refine so_iast (pc := 292) hX dX10_comes_292 (ekM hL rfl) (elM hL rfl) hr ?_
        refine so_aload_n (pc := 293) hX dX10_comes_293 0 rfl ?_
        refine so_gR (pc := 294) hX 31 dX10_comes_294 fl_X10_104 (ekM hL rfl) (erM hL rfl) ?_
        refine so_aload_n (pc := 297) hX dX10_comes_297 0 rfl ?_
        refine so_gI (pc := 298) hX dX10_comes_298 fl_X10_224 (ekM hL rfl) ?_
        refine so_iload_n (pc := 301) hX dX10_comes_301 1 rfl ?_
        refine so_aload_n (pc := 302) hX dX10_comes_302 0 rfl ?_
        refine so_gI (pc := 303) hX dX10_comes_303 fl_X10_233 (ekM hL rfl) ?_
        refine so_iadd (pc := 306) hX dX10_comes_306 ?_
        obtain ⟨μ26, hr, h⟩ := ob h
        refine so_iast (pc := 307) hX dX10_comes_307 (ekM hL rfl) (elM hL rfl) hr ?_
        exact so_vretH (pc := 308) hX hR h dX10_comes_308
      · have h := iq hc18 h
        refine so_aload_n (pc := 196) hX dX10_comes_196 2 rfl ?_
        refine so_iconst (v := (3 : Int32)) (pc := 197) hX dX10_comes_197 (by decide) ?_
        refine so_aload_n (pc := 198) hX dX10_comes_198 2 rfl ?_
        refine so_gR (pc := 199) hX 34 dX10_comes_199 fl_X10_113 (ekM hL rfl) (erM hL rfl) ?_
        refine so_aload_n (pc := 202) hX dX10_comes_202 2 rfl ?_
        refine so_gI (pc := 203) hX dX10_comes_203 fl_X10_224 (ekM hL rfl) ?_
        obtain ⟨e27, hr, h⟩ := ob h
        refine so_iald (pc := 206) hX dX10_comes_206 (ekM hL rfl) (elM hL rfl) hr ?_
        obtain ⟨μ28, hr, h⟩ := ob h
        refine so_callV (As := [.int (3 : Int32), .int e27]) (rest := []) (pc := 207) hX dX10_comes_207 (c_X10_fail hL hr) mw_X10_fail mv_X10_fail ml_X10_230 (ekM hL rfl) (by decide) rfl rfl rfl rfl (by omega) (by decide) (Nat.le_of_ble_eq_true rfl) ?_
        refine so_aload_n (pc := 210) hX dX10_comes_210 2 rfl ?_
        refine so_gI (pc := 211) hX dX10_comes_211 fl_X10_212 (ekM hL rfl) ?_
        refine so_if_eq (pc := 214) hX 218 dX10_comes_214 (by decide) (fun hc29 => ?_) (fun hc29 => ?_)
        · have h := ip hc29 h
          refine so_iconst (v := (0 : Int32)) (pc := 218) hX dX10_comes_218 (by decide) ?_
          refine so_istore_n (pc := 219) hX dX10_comes_219 [(3, .int (0 : Int32)), (2, .int (0 : Int32)), (1, .int ((64 : Int32) * (μ14.1 0 44))), (0, .ref (evA (xV X) 0))] (by rw [hn]; decide) rfl ?_
          refine so_sub (pc := 220) (lv' := [(0, .ref (evA (xV X) 0)), (1, .int ((64 : Int32) * (μ14.1 0 44))), (2, .int (0 : Int32)), (3, .int (0 : Int32))]) [3, 2, 1, 0] rfl ?_
          refine g_X10_comes_L220 hX hL hn hR (fun μ30 h => ?_) FU _ _ h
          refine so_aload_n (pc := 280) hX dX10_comes_280 0 rfl ?_
          refine so_gR (pc := 281) hX 30 dX10_comes_281 fl_X10_101 (ekM hL rfl) (erM hL rfl) ?_
          refine so_aload_n (pc := 284) hX dX10_comes_284 0 rfl ?_
          refine so_gI (pc := 285) hX dX10_comes_285 fl_X10_224 (ekM hL rfl) ?_
          refine so_aload_n (pc := 288) hX dX10_comes_288 0 rfl ?_
          refine so_gI (pc := 289) hX dX10_comes_289 fl_X10_236 (ekM hL rfl) ?_
          obtain ⟨μ31, hr, h⟩ := ob h
          refine so_iast (pc := 292) hX dX10_comes_292 (ekM hL rfl) (elM hL rfl) hr ?_
          refine so_aload_n (pc := 293) hX dX10_comes_293 0 rfl ?_
          refine so_gR (pc := 294) hX 31 dX10_comes_294 fl_X10_104 (ekM hL rfl) (erM hL rfl) ?_
          refine so_aload_n (pc := 297) hX dX10_comes_297 0 rfl ?_
          refine so_gI (pc := 298) hX dX10_comes_298 fl_X10_224 (ekM hL rfl) ?_
          refine so_iload_n (pc := 301) hX dX10_comes_301 1 rfl ?_
          refine so_aload_n (pc := 302) hX dX10_comes_302 0 rfl ?_
          refine so_gI (pc := 303) hX dX10_comes_303 fl_X10_233 (ekM hL rfl) ?_
          refine so_iadd (pc := 306) hX dX10_comes_306 ?_
          obtain ⟨μ32, hr, h⟩ := ob h
          refine so_iast (pc := 307) hX dX10_comes_307 (ekM hL rfl) (elM hL rfl) hr ?_
          exact so_vretH (pc := 308) hX hR h dX10_comes_308
        · have h := iq hc29 h
          exact so_vretH (pc := 217) hX hR h dX10_comes_217
  · have h := iq hc15 h
    exact so_vretH (pc := 113) hX hR h dX10_comes_113
set_option maxHeartbeats 4000000 in
set_option maxRecDepth 100000 in
theorem g_X10_ends_L116 {X : Cx} (hX : Fx X cX10_ends RX10 1) (hL : (xV X).2.2.2 = lyM) (hn : xn X = 5) {μZ : Mem} (hR : Rt X none μZ none) {v1 : Int32} {v2 : Int32} {v3 : Int32}  {K : Mem → Option (Mem)} (hK : ∀  (μ : Mem), K μ = some μZ → Gd X 166 [(0, .ref (evA (xV X) 0)), (1, .int v1), (2, .int v2), (3, .int v3)] [] μ) : ∀ (n : Nat) (v4 : Int32) (μ : Mem), f_X10_ends_L116 v1 v2 v3 K n v4 μ = some μZ → Gd X 116 [(0, .ref (evA (xV X) 0)), (1, .int v1), (2, .int v2), (3, .int v3), (4, .int v4)] [] μ := by
  intro n
  induction n with
  | zero => intro _ _ h; rw [f_X10_ends_L116] at h; cases h
  | succ n ih =>
    intro v4 μ h
    rw [f_X10_ends_L116] at h
    refine so_iload (pc := 116) hX dX10_ends_116 4 rfl ?_
    refine so_aload_n (pc := 118) hX dX10_ends_118 0 rfl ?_
    refine so_gR (pc := 119) hX 30 dX10_ends_119 fl_X10_101 (ekM hL rfl) (erM hL rfl) ?_
    refine so_aload_n (pc := 122) hX dX10_ends_122 0 rfl ?_
    refine so_gI (pc := 123) hX dX10_ends_123 fl_X10_224 (ekM hL rfl) ?_
    obtain ⟨e8, hr, h⟩ := ob h
    refine so_iald (pc := 126) hX dX10_ends_126 (ekM hL rfl) (elM hL rfl) hr ?_
    refine so_icmp_ge (pc := 127) hX 166 dX10_ends_127 (by decide) (fun hc9 => ?_) (fun hc9 => ?_)
    · have h := ip hc9 h
      refine so_sub (pc := 166) (lv' := [(0, .ref (evA (xV X) 0)), (1, .int v1), (2, .int v2), (3, .int v3)]) [0, 1, 2, 3] rfl ?_
      exact hK _ h
    · have h := iq hc9 h
      refine so_aload_n (pc := 130) hX dX10_ends_130 0 rfl ?_
      refine so_gR (pc := 131) hX 29 dX10_ends_131 fl_X10_98 (ekM hL rfl) (erM hL rfl) ?_
      refine so_iload_n (pc := 134) hX dX10_ends_134 1 rfl ?_
      refine so_bipush (v := (8 : Int32)) (pc := 135) hX dX10_ends_135 (by decide) ?_
      refine so_iload_n (pc := 137) hX dX10_ends_137 3 rfl ?_
      refine so_imul (pc := 138) hX dX10_ends_138 ?_
      refine so_iadd (pc := 139) hX dX10_ends_139 ?_
      refine so_iload_n (pc := 140) hX dX10_ends_140 2 rfl ?_
      refine so_iadd (pc := 141) hX dX10_ends_141 ?_
      refine so_iload (pc := 142) hX dX10_ends_142 4 rfl ?_
      refine so_iadd (pc := 144) hX dX10_ends_144 ?_
      refine so_aload_n (pc := 145) hX dX10_ends_145 0 rfl ?_
      refine so_gR (pc := 146) hX 32 dX10_ends_146 fl_X10_107 (ekM hL rfl) (erM hL rfl) ?_
      refine so_iload_n (pc := 149) hX dX10_ends_149 1 rfl ?_
      refine so_bipush (v := (8 : Int32)) (pc := 150) hX dX10_ends_150 (by decide) ?_
      refine so_iload_n (pc := 152) hX dX10_ends_152 3 rfl ?_
      refine so_imul (pc := 153) hX dX10_ends_153 ?_
      refine so_iadd (pc := 154) hX dX10_ends_154 ?_
      refine so_iload (pc := 155) hX dX10_ends_155 4 rfl ?_
      refine so_iadd (pc := 157) hX dX10_ends_157 ?_
      obtain ⟨e10, hr, h⟩ := ob h
      refine so_iald (pc := 158) hX dX10_ends_158 (ekM hL rfl) (elM hL rfl) hr ?_
      obtain ⟨μ11, hr, h⟩ := ob h
      refine so_iast (pc := 159) hX dX10_ends_159 (ekM hL rfl) (elM hL rfl) hr ?_
      refine so_iinc (pc := 160) hX dX10_ends_160 4 (1 : Int32) [(4, .int (v4 + (1 : Int32))), (0, .ref (evA (xV X) 0)), (1, .int v1), (2, .int v2), (3, .int v3)] rfl (by decide) (by rw [hn]; decide) rfl ?_
      refine so_goto (pc := 163) hX 116 dX10_ends_163 (by decide) ?_
      refine so_sub (pc := 116) (lv' := [(0, .ref (evA (xV X) 0)), (1, .int v1), (2, .int v2), (3, .int v3), (4, .int (v4 + (1 : Int32)))]) [1, 2, 3, 4, 0] rfl ?_
      exact ih _ _ h
set_option maxHeartbeats 4000000 in
set_option maxRecDepth 100000 in
theorem g_X10_ends_L100 {X : Cx} (hX : Fx X cX10_ends RX10 1) (hL : (xV X).2.2.2 = lyM) (hn : xn X = 5) {μZ : Mem} (hR : Rt X none μZ none) {v1 : Int32} {v2 : Int32}  {K : Mem → Option (Mem)} (hK : ∀  (μ : Mem), K μ = some μZ → Gd X 172 [(0, .ref (evA (xV X) 0)), (2, .int v2)] [] μ) : ∀ (n : Nat) (v3 : Int32) (μ : Mem), f_X10_ends_L100 v1 v2 K n v3 μ = some μZ → Gd X 100 [(0, .ref (evA (xV X) 0)), (1, .int v1), (2, .int v2), (3, .int v3)] [] μ := by
  intro n
  induction n with
  | zero => intro _ _ h; rw [f_X10_ends_L100] at h; cases h
  | succ n ih =>
    intro v3 μ h
    rw [f_X10_ends_L100] at h
    refine so_iload_n (pc := 100) hX dX10_ends_100 3 rfl ?_
    refine so_aload_n (pc := 101) hX dX10_ends_101 0 rfl ?_
    refine so_gR (pc := 102) hX 31 dX10_ends_102 fl_X10_104 (ekM hL rfl) (erM hL rfl) ?_
    refine so_aload_n (pc := 105) hX dX10_ends_105 0 rfl ?_
    refine so_gI (pc := 106) hX dX10_ends_106 fl_X10_224 (ekM hL rfl) ?_
    obtain ⟨e6, hr, h⟩ := ob h
    refine so_iald (pc := 109) hX dX10_ends_109 (ekM hL rfl) (elM hL rfl) hr ?_
    refine so_icmp_ge (pc := 110) hX 172 dX10_ends_110 (by decide) (fun hc7 => ?_) (fun hc7 => ?_)
    · have h := ip hc7 h
      refine so_sub (pc := 172) (lv' := [(0, .ref (evA (xV X) 0)), (2, .int v2)]) [0, 2] rfl ?_
      exact hK _ h
    · have h := iq hc7 h
      refine so_iconst (v := (0 : Int32)) (pc := 113) hX dX10_ends_113 (by decide) ?_
      refine so_istore (pc := 114) hX dX10_ends_114 [(4, .int (0 : Int32)), (0, .ref (evA (xV X) 0)), (1, .int v1), (2, .int v2), (3, .int v3)] (by rw [hn]; decide) rfl ?_
      refine so_sub (pc := 116) (lv' := [(0, .ref (evA (xV X) 0)), (1, .int v1), (2, .int v2), (3, .int v3), (4, .int (0 : Int32))]) [1, 2, 3, 4, 0] rfl ?_
      refine g_X10_ends_L116 hX hL hn hR (fun μ12 h => ?_) FU _ _ h
      refine so_iinc (pc := 166) hX dX10_ends_166 3 (1 : Int32) [(3, .int (v3 + (1 : Int32))), (0, .ref (evA (xV X) 0)), (1, .int v1), (2, .int v2)] rfl (by decide) (by rw [hn]; decide) rfl ?_
      refine so_goto (pc := 169) hX 100 dX10_ends_169 (by decide) ?_
      refine so_sub (pc := 100) (lv' := [(0, .ref (evA (xV X) 0)), (1, .int v1), (2, .int v2), (3, .int (v3 + (1 : Int32)))]) [1, 2, 3, 0] rfl ?_
      exact ih _ _ h
set_option maxHeartbeats 4000000 in
set_option maxRecDepth 100000 in
theorem c_X10_ends {l : Launch} {V : Ev} (hL : V.2.2.2 = lyM)   {μ : Mem} {μZ : Mem} (h : f_X10_ends  μ = some μZ) : CT l V yX10_ends cX10_ends 5 none 1 [.ref (evA V 0)] μ μZ none := by
  refine so_met [(0, .ref (evA V 0))] (by decide) (Nat.le_of_ble_eq_true rfl) (evMn hL) rfl ?_
  intro X hl hV hn hX hR
  subst hl hV
  unfold f_X10_ends at h
  refine so_bipush (v := (64 : Int32)) (pc := 0) hX dX10_ends_0 (by decide) ?_
  refine so_aload_n (pc := 2) hX dX10_ends_2 0 rfl ?_
  refine so_gI (pc := 3) hX dX10_ends_3 fl_X10_224 (ekM hL rfl) ?_
  refine so_imul (pc := 6) hX dX10_ends_6 ?_
  refine so_istore_n (pc := 7) hX dX10_ends_7 [(1, .int ((64 : Int32) * (μ.1 0 44))), (0, .ref (evA (xV X) 0))] (by rw [hn]; decide) rfl ?_
  refine so_aload_n (pc := 8) hX dX10_ends_8 1 rfl ?_
  refine so_gR (pc := 9) hX 27 dX10_ends_9 fl_X10_92 (ekM hL rfl) (erM hL rfl) ?_
  refine so_aload_n (pc := 12) hX dX10_ends_12 1 rfl ?_
  refine so_gI (pc := 13) hX dX10_ends_13 fl_X10_224 (ekM hL rfl) ?_
  obtain ⟨e1, hr, h⟩ := ob h
  refine so_iald (pc := 16) hX dX10_ends_16 (ekM hL rfl) (elM hL rfl) hr ?_
  refine so_istore_n (pc := 17) hX dX10_ends_17 [(2, .int e1), (1, .int ((64 : Int32) * (μ.1 0 44))), (0, .ref (evA (xV X) 0))] (by rw [hn]; decide) rfl ?_
  refine so_iload_n (pc := 18) hX dX10_ends_18 0 rfl ?_
  refine so_if_le (pc := 19) hX 60 dX10_ends_19 (by decide) (fun hc2 => ?_) (fun hc2 => ?_)
  · have h := ip hc2 h
    refine so_iload_n (pc := 60) hX dX10_ends_60 0 rfl ?_
    refine so_aload_n (pc := 61) hX dX10_ends_61 2 rfl ?_
    refine so_gR (pc := 62) hX 30 dX10_ends_62 fl_X10_101 (ekM hL rfl) (erM hL rfl) ?_
    refine so_aload_n (pc := 65) hX dX10_ends_65 2 rfl ?_
    refine so_gI (pc := 66) hX dX10_ends_66 fl_X10_224 (ekM hL rfl) ?_
    obtain ⟨e3, hr, h⟩ := ob h
    refine so_iald (pc := 69) hX dX10_ends_69 (ekM hL rfl) (elM hL rfl) hr ?_
    refine so_iadd (pc := 70) hX dX10_ends_70 ?_
    refine so_bipush (v := (8 : Int32)) (pc := 71) hX dX10_ends_71 (by decide) ?_
    refine so_icmp_le (pc := 73) hX 90 dX10_ends_73 (by decide) (fun hc4 => ?_) (fun hc4 => ?_)
    · have h := ip hc4 h
      refine so_aload_n (pc := 90) hX dX10_ends_90 2 rfl ?_
      refine so_gI (pc := 91) hX dX10_ends_91 fl_X10_212 (ekM hL rfl) ?_
      refine so_if_eq (pc := 94) hX 98 dX10_ends_94 (by decide) (fun hc5 => ?_) (fun hc5 => ?_)
      · have h := ip hc5 h
        refine so_iconst (v := (0 : Int32)) (pc := 98) hX dX10_ends_98 (by decide) ?_
        refine so_istore_n (pc := 99) hX dX10_ends_99 [(3, .int (0 : Int32)), (2, .int e1), (1, .int ((64 : Int32) * (μ.1 0 44))), (0, .ref (evA (xV X) 0))] (by rw [hn]; decide) rfl ?_
        refine so_sub (pc := 100) (lv' := [(0, .ref (evA (xV X) 0)), (1, .int ((64 : Int32) * (μ.1 0 44))), (2, .int e1), (3, .int (0 : Int32))]) [3, 2, 1, 0] rfl ?_
        refine g_X10_ends_L100 hX hL hn hR (fun μ13 h => ?_) FU _ _ h
        refine so_aload_n (pc := 172) hX dX10_ends_172 0 rfl ?_
        refine so_gR (pc := 173) hX 27 dX10_ends_173 fl_X10_92 (ekM hL rfl) (erM hL rfl) ?_
        refine so_aload_n (pc := 176) hX dX10_ends_176 0 rfl ?_
        refine so_gI (pc := 177) hX dX10_ends_177 fl_X10_224 (ekM hL rfl) ?_
        refine so_iload_n (pc := 180) hX dX10_ends_180 1 rfl ?_
        refine so_aload_n (pc := 181) hX dX10_ends_181 0 rfl ?_
        refine so_gR (pc := 182) hX 30 dX10_ends_182 fl_X10_101 (ekM hL rfl) (erM hL rfl) ?_
        refine so_aload_n (pc := 185) hX dX10_ends_185 0 rfl ?_
        refine so_gI (pc := 186) hX dX10_ends_186 fl_X10_224 (ekM hL rfl) ?_
        obtain ⟨e14, hr, h⟩ := ob h
        refine so_iald (pc := 189) hX dX10_ends_189 (ekM hL rfl) (elM hL rfl) hr ?_
        refine so_iadd (pc := 190) hX dX10_ends_190 ?_
        obtain ⟨μ15, hr, h⟩ := ob h
        refine so_iast (pc := 191) hX dX10_ends_191 (ekM hL rfl) (elM hL rfl) hr ?_
        refine so_aload_n (pc := 192) hX dX10_ends_192 0 rfl ?_
        refine so_gR (pc := 193) hX 28 dX10_ends_193 fl_X10_95 (ekM hL rfl) (erM hL rfl) ?_
        refine so_aload_n (pc := 196) hX dX10_ends_196 0 rfl ?_
        refine so_gI (pc := 197) hX dX10_ends_197 fl_X10_224 (ekM hL rfl) ?_
        refine so_aload_n (pc := 200) hX dX10_ends_200 0 rfl ?_
        refine so_gR (pc := 201) hX 31 dX10_ends_201 fl_X10_104 (ekM hL rfl) (erM hL rfl) ?_
        refine so_aload_n (pc := 204) hX dX10_ends_204 0 rfl ?_
        refine so_gI (pc := 205) hX dX10_ends_205 fl_X10_224 (ekM hL rfl) ?_
        obtain ⟨e16, hr, h⟩ := ob h
        refine so_iald (pc := 208) hX dX10_ends_208 (ekM hL rfl) (elM hL rfl) hr ?_
        obtain ⟨μ17, hr, h⟩ := ob h
        refine so_iast (pc := 209) hX dX10_ends_209 (ekM hL rfl) (elM hL rfl) hr ?_
        refine so_aload_n (pc := 210) hX dX10_ends_210 0 rfl ?_
        refine so_gR (pc := 211) hX 30 dX10_ends_211 fl_X10_101 (ekM hL rfl) (erM hL rfl) ?_
        refine so_aload_n (pc := 214) hX dX10_ends_214 0 rfl ?_
        refine so_gI (pc := 215) hX dX10_ends_215 fl_X10_224 (ekM hL rfl) ?_
        refine so_iconst (v := (0 : Int32)) (pc := 218) hX dX10_ends_218 (by decide) ?_
        obtain ⟨μ18, hr, h⟩ := ob h
        refine so_iast (pc := 219) hX dX10_ends_219 (ekM hL rfl) (elM hL rfl) hr ?_
        exact so_vretH (pc := 220) hX hR h dX10_ends_220
      · have h := iq hc5 h
        exact so_vretH (pc := 97) hX hR h dX10_ends_97
    · have h := iq hc4 h
      refine so_aload_n (pc := 76) hX dX10_ends_76 2 rfl ?_
      refine so_iconst (v := (3 : Int32)) (pc := 77) hX dX10_ends_77 (by decide) ?_
      refine so_aload_n (pc := 78) hX dX10_ends_78 2 rfl ?_
      refine so_gR (pc := 79) hX 33 dX10_ends_79 fl_X10_110 (ekM hL rfl) (erM hL rfl) ?_
      refine so_aload_n (pc := 82) hX dX10_ends_82 2 rfl ?_
      refine so_gI (pc := 83) hX dX10_ends_83 fl_X10_224 (ekM hL rfl) ?_
      obtain ⟨e19, hr, h⟩ := ob h
      refine so_iald (pc := 86) hX dX10_ends_86 (ekM hL rfl) (elM hL rfl) hr ?_
      obtain ⟨μ20, hr, h⟩ := ob h
      refine so_callV (As := [.int (3 : Int32), .int e19]) (rest := []) (pc := 87) hX dX10_ends_87 (c_X10_fail hL hr) mw_X10_fail mv_X10_fail ml_X10_230 (ekM hL rfl) (by decide) rfl rfl rfl rfl (by omega) (by decide) (Nat.le_of_ble_eq_true rfl) ?_
      refine so_aload_n (pc := 90) hX dX10_ends_90 2 rfl ?_
      refine so_gI (pc := 91) hX dX10_ends_91 fl_X10_212 (ekM hL rfl) ?_
      refine so_if_eq (pc := 94) hX 98 dX10_ends_94 (by decide) (fun hc21 => ?_) (fun hc21 => ?_)
      · have h := ip hc21 h
        refine so_iconst (v := (0 : Int32)) (pc := 98) hX dX10_ends_98 (by decide) ?_
        refine so_istore_n (pc := 99) hX dX10_ends_99 [(3, .int (0 : Int32)), (2, .int e1), (1, .int ((64 : Int32) * (μ.1 0 44))), (0, .ref (evA (xV X) 0))] (by rw [hn]; decide) rfl ?_
        refine so_sub (pc := 100) (lv' := [(0, .ref (evA (xV X) 0)), (1, .int ((64 : Int32) * (μ.1 0 44))), (2, .int e1), (3, .int (0 : Int32))]) [3, 2, 1, 0] rfl ?_
        refine g_X10_ends_L100 hX hL hn hR (fun μ22 h => ?_) FU _ _ h
        refine so_aload_n (pc := 172) hX dX10_ends_172 0 rfl ?_
        refine so_gR (pc := 173) hX 27 dX10_ends_173 fl_X10_92 (ekM hL rfl) (erM hL rfl) ?_
        refine so_aload_n (pc := 176) hX dX10_ends_176 0 rfl ?_
        refine so_gI (pc := 177) hX dX10_ends_177 fl_X10_224 (ekM hL rfl) ?_
        refine so_iload_n (pc := 180) hX dX10_ends_180 1 rfl ?_
        refine so_aload_n (pc := 181) hX dX10_ends_181 0 rfl ?_
        refine so_gR (pc := 182) hX 30 dX10_ends_182 fl_X10_101 (ekM hL rfl) (erM hL rfl) ?_
        refine so_aload_n (pc := 185) hX dX10_ends_185 0 rfl ?_
        refine so_gI (pc := 186) hX dX10_ends_186 fl_X10_224 (ekM hL rfl) ?_
        obtain ⟨e23, hr, h⟩ := ob h
        refine so_iald (pc := 189) hX dX10_ends_189 (ekM hL rfl) (elM hL rfl) hr ?_
        refine so_iadd (pc := 190) hX dX10_ends_190 ?_
        obtain ⟨μ24, hr, h⟩ := ob h
        refine so_iast (pc := 191) hX dX10_ends_191 (ekM hL rfl) (elM hL rfl) hr ?_
        refine so_aload_n (pc := 192) hX dX10_ends_192 0 rfl ?_
        refine so_gR (pc := 193) hX 28 dX10_ends_193 fl_X10_95 (ekM hL rfl) (erM hL rfl) ?_
        refine so_aload_n (pc := 196) hX dX10_ends_196 0 rfl ?_
        refine so_gI (pc := 197) hX dX10_ends_197 fl_X10_224 (ekM hL rfl) ?_
        refine so_aload_n (pc := 200) hX dX10_ends_200 0 rfl ?_
        refine so_gR (pc := 201) hX 31 dX10_ends_201 fl_X10_104 (ekM hL rfl) (erM hL rfl) ?_
        refine so_aload_n (pc := 204) hX dX10_ends_204 0 rfl ?_
        refine so_gI (pc := 205) hX dX10_ends_205 fl_X10_224 (ekM hL rfl) ?_
        obtain ⟨e25, hr, h⟩ := ob h
        refine so_iald (pc := 208) hX dX10_ends_208 (ekM hL rfl) (elM hL rfl) hr ?_
        obtain ⟨μ26, hr, h⟩ := ob h
        refine so_iast (pc := 209) hX dX10_ends_209 (ekM hL rfl) (elM hL rfl) hr ?_
        refine so_aload_n (pc := 210) hX dX10_ends_210 0 rfl ?_
        refine so_gR (pc := 211) hX 30 dX10_ends_211 fl_X10_101 (ekM hL rfl) (erM hL rfl) ?_
        refine so_aload_n (pc := 214) hX dX10_ends_214 0 rfl ?_
        refine so_gI (pc := 215) hX dX10_ends_215 fl_X10_224 (ekM hL rfl) ?_
        refine so_iconst (v := (0 : Int32)) (pc := 218) hX dX10_ends_218 (by decide) ?_
        obtain ⟨μ27, hr, h⟩ := ob h
        refine so_iast (pc := 219) hX dX10_ends_219 (ekM hL rfl) (elM hL rfl) hr ?_
        exact so_vretH (pc := 220) hX hR h dX10_ends_220
      · have h := iq hc21 h
        exact so_vretH (pc := 97) hX hR h dX10_ends_97
  · have h := iq hc2 h
    refine so_aload_n (pc := 22) hX dX10_ends_22 2 rfl ?_
    refine so_gR (pc := 23) hX 28 dX10_ends_23 fl_X10_95 (ekM hL rfl) (erM hL rfl) ?_
    refine so_aload_n (pc := 26) hX dX10_ends_26 2 rfl ?_
    refine so_gI (pc := 27) hX dX10_ends_27 fl_X10_224 (ekM hL rfl) ?_
    obtain ⟨e28, hr, h⟩ := ob h
    refine so_iald (pc := 30) hX dX10_ends_30 (ekM hL rfl) (elM hL rfl) hr ?_
    refine so_aload_n (pc := 31) hX dX10_ends_31 2 rfl ?_
    refine so_gR (pc := 32) hX 31 dX10_ends_32 fl_X10_104 (ekM hL rfl) (erM hL rfl) ?_
    refine so_aload_n (pc := 35) hX dX10_ends_35 2 rfl ?_
    refine so_gI (pc := 36) hX dX10_ends_36 fl_X10_224 (ekM hL rfl) ?_
    obtain ⟨e29, hr, h⟩ := ob h
    refine so_iald (pc := 39) hX dX10_ends_39 (ekM hL rfl) (elM hL rfl) hr ?_
    refine so_icmp_eq (pc := 40) hX 60 dX10_ends_40 (by decide) (fun hc30 => ?_) (fun hc30 => ?_)
    · have h := ip hc30 h
      refine so_iload_n (pc := 60) hX dX10_ends_60 0 rfl ?_
      refine so_aload_n (pc := 61) hX dX10_ends_61 2 rfl ?_
      refine so_gR (pc := 62) hX 30 dX10_ends_62 fl_X10_101 (ekM hL rfl) (erM hL rfl) ?_
      refine so_aload_n (pc := 65) hX dX10_ends_65 2 rfl ?_
      refine so_gI (pc := 66) hX dX10_ends_66 fl_X10_224 (ekM hL rfl) ?_
      obtain ⟨e31, hr, h⟩ := ob h
      refine so_iald (pc := 69) hX dX10_ends_69 (ekM hL rfl) (elM hL rfl) hr ?_
      refine so_iadd (pc := 70) hX dX10_ends_70 ?_
      refine so_bipush (v := (8 : Int32)) (pc := 71) hX dX10_ends_71 (by decide) ?_
      refine so_icmp_le (pc := 73) hX 90 dX10_ends_73 (by decide) (fun hc32 => ?_) (fun hc32 => ?_)
      · have h := ip hc32 h
        refine so_aload_n (pc := 90) hX dX10_ends_90 2 rfl ?_
        refine so_gI (pc := 91) hX dX10_ends_91 fl_X10_212 (ekM hL rfl) ?_
        refine so_if_eq (pc := 94) hX 98 dX10_ends_94 (by decide) (fun hc33 => ?_) (fun hc33 => ?_)
        · have h := ip hc33 h
          refine so_iconst (v := (0 : Int32)) (pc := 98) hX dX10_ends_98 (by decide) ?_
          refine so_istore_n (pc := 99) hX dX10_ends_99 [(3, .int (0 : Int32)), (2, .int e1), (1, .int ((64 : Int32) * (μ.1 0 44))), (0, .ref (evA (xV X) 0))] (by rw [hn]; decide) rfl ?_
          refine so_sub (pc := 100) (lv' := [(0, .ref (evA (xV X) 0)), (1, .int ((64 : Int32) * (μ.1 0 44))), (2, .int e1), (3, .int (0 : Int32))]) [3, 2, 1, 0] rfl ?_
          refine g_X10_ends_L100 hX hL hn hR (fun μ34 h => ?_) FU _ _ h
          refine so_aload_n (pc := 172) hX dX10_ends_172 0 rfl ?_
          refine so_gR (pc := 173) hX 27 dX10_ends_173 fl_X10_92 (ekM hL rfl) (erM hL rfl) ?_
          refine so_aload_n (pc := 176) hX dX10_ends_176 0 rfl ?_
          refine so_gI (pc := 177) hX dX10_ends_177 fl_X10_224 (ekM hL rfl) ?_
          refine so_iload_n (pc := 180) hX dX10_ends_180 1 rfl ?_
          refine so_aload_n (pc := 181) hX dX10_ends_181 0 rfl ?_
          refine so_gR (pc := 182) hX 30 dX10_ends_182 fl_X10_101 (ekM hL rfl) (erM hL rfl) ?_
          refine so_aload_n (pc := 185) hX dX10_ends_185 0 rfl ?_
          refine so_gI (pc := 186) hX dX10_ends_186 fl_X10_224 (ekM hL rfl) ?_
          obtain ⟨e35, hr, h⟩ := ob h
          refine so_iald (pc := 189) hX dX10_ends_189 (ekM hL rfl) (elM hL rfl) hr ?_
          refine so_iadd (pc := 190) hX dX10_ends_190 ?_
          obtain ⟨μ36, hr, h⟩ := ob h
          refine so_iast (pc := 191) hX dX10_ends_191 (ekM hL rfl) (elM hL rfl) hr ?_
          refine so_aload_n (pc := 192) hX dX10_ends_192 0 rfl ?_
          refine so_gR (pc := 193) hX 28 dX10_ends_193 fl_X10_95 (ekM hL rfl) (erM hL rfl) ?_
          refine so_aload_n (pc := 196) hX dX10_ends_196 0 rfl ?_
          refine so_gI (pc := 197) hX dX10_ends_197 fl_X10_224 (ekM hL rfl) ?_
          refine so_aload_n (pc := 200) hX dX10_ends_200 0 rfl ?_
          refine so_gR (pc := 201) hX 31 dX10_ends_201 fl_X10_104 (ekM hL rfl) (erM hL rfl) ?_
          refine so_aload_n (pc := 204) hX dX10_ends_204 0 rfl ?_
          refine so_gI (pc := 205) hX dX10_ends_205 fl_X10_224 (ekM hL rfl) ?_
          obtain ⟨e37, hr, h⟩ := ob h
          refine so_iald (pc := 208) hX dX10_ends_208 (ekM hL rfl) (elM hL rfl) hr ?_
          obtain ⟨μ38, hr, h⟩ := ob h
          refine so_iast (pc := 209) hX dX10_ends_209 (ekM hL rfl) (elM hL rfl) hr ?_
          refine so_aload_n (pc := 210) hX dX10_ends_210 0 rfl ?_
          refine so_gR (pc := 211) hX 30 dX10_ends_211 fl_X10_101 (ekM hL rfl) (erM hL rfl) ?_
          refine so_aload_n (pc := 214) hX dX10_ends_214 0 rfl ?_
          refine so_gI (pc := 215) hX dX10_ends_215 fl_X10_224 (ekM hL rfl) ?_
          refine so_iconst (v := (0 : Int32)) (pc := 218) hX dX10_ends_218 (by decide) ?_
          obtain ⟨μ39, hr, h⟩ := ob h
          refine so_iast (pc := 219) hX dX10_ends_219 (ekM hL rfl) (elM hL rfl) hr ?_
          exact so_vretH (pc := 220) hX hR h dX10_ends_220
        · have h := iq hc33 h
          exact so_vretH (pc := 97) hX hR h dX10_ends_97
      · have h := iq hc32 h
        refine so_aload_n (pc := 76) hX dX10_ends_76 2 rfl ?_
        refine so_iconst (v := (3 : Int32)) (pc := 77) hX dX10_ends_77 (by decide) ?_
        refine so_aload_n (pc := 78) hX dX10_ends_78 2 rfl ?_
        refine so_gR (pc := 79) hX 33 dX10_ends_79 fl_X10_110 (ekM hL rfl) (erM hL rfl) ?_
        refine so_aload_n (pc := 82) hX dX10_ends_82 2 rfl ?_
        refine so_gI (pc := 83) hX dX10_ends_83 fl_X10_224 (ekM hL rfl) ?_
        obtain ⟨e40, hr, h⟩ := ob h
        refine so_iald (pc := 86) hX dX10_ends_86 (ekM hL rfl) (elM hL rfl) hr ?_
        obtain ⟨μ41, hr, h⟩ := ob h
        refine so_callV (As := [.int (3 : Int32), .int e40]) (rest := []) (pc := 87) hX dX10_ends_87 (c_X10_fail hL hr) mw_X10_fail mv_X10_fail ml_X10_230 (ekM hL rfl) (by decide) rfl rfl rfl rfl (by omega) (by decide) (Nat.le_of_ble_eq_true rfl) ?_
        refine so_aload_n (pc := 90) hX dX10_ends_90 2 rfl ?_
        refine so_gI (pc := 91) hX dX10_ends_91 fl_X10_212 (ekM hL rfl) ?_
        refine so_if_eq (pc := 94) hX 98 dX10_ends_94 (by decide) (fun hc42 => ?_) (fun hc42 => ?_)
        · have h := ip hc42 h
          refine so_iconst (v := (0 : Int32)) (pc := 98) hX dX10_ends_98 (by decide) ?_
          refine so_istore_n (pc := 99) hX dX10_ends_99 [(3, .int (0 : Int32)), (2, .int e1), (1, .int ((64 : Int32) * (μ.1 0 44))), (0, .ref (evA (xV X) 0))] (by rw [hn]; decide) rfl ?_
          refine so_sub (pc := 100) (lv' := [(0, .ref (evA (xV X) 0)), (1, .int ((64 : Int32) * (μ.1 0 44))), (2, .int e1), (3, .int (0 : Int32))]) [3, 2, 1, 0] rfl ?_
          refine g_X10_ends_L100 hX hL hn hR (fun μ43 h => ?_) FU _ _ h
          refine so_aload_n (pc := 172) hX dX10_ends_172 0 rfl ?_
          refine so_gR (pc := 173) hX 27 dX10_ends_173 fl_X10_92 (ekM hL rfl) (erM hL rfl) ?_
          refine so_aload_n (pc := 176) hX dX10_ends_176 0 rfl ?_
          refine so_gI (pc := 177) hX dX10_ends_177 fl_X10_224 (ekM hL rfl) ?_
          refine so_iload_n (pc := 180) hX dX10_ends_180 1 rfl ?_
          refine so_aload_n (pc := 181) hX dX10_ends_181 0 rfl ?_
          refine so_gR (pc := 182) hX 30 dX10_ends_182 fl_X10_101 (ekM hL rfl) (erM hL rfl) ?_
          refine so_aload_n (pc := 185) hX dX10_ends_185 0 rfl ?_
          refine so_gI (pc := 186) hX dX10_ends_186 fl_X10_224 (ekM hL rfl) ?_
          obtain ⟨e44, hr, h⟩ := ob h
          refine so_iald (pc := 189) hX dX10_ends_189 (ekM hL rfl) (elM hL rfl) hr ?_
          refine so_iadd (pc := 190) hX dX10_ends_190 ?_
          obtain ⟨μ45, hr, h⟩ := ob h
          refine so_iast (pc := 191) hX dX10_ends_191 (ekM hL rfl) (elM hL rfl) hr ?_
          refine so_aload_n (pc := 192) hX dX10_ends_192 0 rfl ?_
          refine so_gR (pc := 193) hX 28 dX10_ends_193 fl_X10_95 (ekM hL rfl) (erM hL rfl) ?_
          refine so_aload_n (pc := 196) hX dX10_ends_196 0 rfl ?_
          refine so_gI (pc := 197) hX dX10_ends_197 fl_X10_224 (ekM hL rfl) ?_
          refine so_aload_n (pc := 200) hX dX10_ends_200 0 rfl ?_
          refine so_gR (pc := 201) hX 31 dX10_ends_201 fl_X10_104 (ekM hL rfl) (erM hL rfl) ?_
          refine so_aload_n (pc := 204) hX dX10_ends_204 0 rfl ?_
          refine so_gI (pc := 205) hX dX10_ends_205 fl_X10_224 (ekM hL rfl) ?_
          obtain ⟨e46, hr, h⟩ := ob h
          refine so_iald (pc := 208) hX dX10_ends_208 (ekM hL rfl) (elM hL rfl) hr ?_
          obtain ⟨μ47, hr, h⟩ := ob h
          refine so_iast (pc := 209) hX dX10_ends_209 (ekM hL rfl) (elM hL rfl) hr ?_
          refine so_aload_n (pc := 210) hX dX10_ends_210 0 rfl ?_
          refine so_gR (pc := 211) hX 30 dX10_ends_211 fl_X10_101 (ekM hL rfl) (erM hL rfl) ?_
          refine so_aload_n (pc := 214) hX dX10_ends_214 0 rfl ?_
          refine so_gI (pc := 215) hX dX10_ends_215 fl_X10_224 (ekM hL rfl) ?_
          refine so_iconst (v := (0 : Int32)) (pc := 218) hX dX10_ends_218 (by decide) ?_
          obtain ⟨μ48, hr, h⟩ := ob h
          refine so_iast (pc := 219) hX dX10_ends_219 (ekM hL rfl) (elM hL rfl) hr ?_
          exact so_vretH (pc := 220) hX hR h dX10_ends_220
        · have h := iq hc42 h
          exact so_vretH (pc := 97) hX hR h dX10_ends_97
    · have h := iq hc30 h
      refine so_aload_n (pc := 43) hX dX10_ends_43 2 rfl ?_
      refine so_iconst (v := (2 : Int32)) (pc := 44) hX dX10_ends_44 (by decide) ?_
      refine so_aload_n (pc := 45) hX dX10_ends_45 2 rfl ?_
      refine so_gR (pc := 46) hX 33 dX10_ends_46 fl_X10_110 (ekM hL rfl) (erM hL rfl) ?_
      refine so_aload_n (pc := 49) hX dX10_ends_49 2 rfl ?_
      refine so_gI (pc := 50) hX dX10_ends_50 fl_X10_224 (ekM hL rfl) ?_
      obtain ⟨e49, hr, h⟩ := ob h
      refine so_iald (pc := 53) hX dX10_ends_53 (ekM hL rfl) (elM hL rfl) hr ?_
      obtain ⟨μ50, hr, h⟩ := ob h
      refine so_callV (As := [.int (2 : Int32), .int e49]) (rest := []) (pc := 54) hX dX10_ends_54 (c_X10_fail hL hr) mw_X10_fail mv_X10_fail ml_X10_230 (ekM hL rfl) (by decide) rfl rfl rfl rfl (by omega) (by decide) (Nat.le_of_ble_eq_true rfl) ?_
      refine so_goto (pc := 57) hX 90 dX10_ends_57 (by decide) ?_
      refine so_aload_n (pc := 90) hX dX10_ends_90 2 rfl ?_
      refine so_gI (pc := 91) hX dX10_ends_91 fl_X10_212 (ekM hL rfl) ?_
      refine so_if_eq (pc := 94) hX 98 dX10_ends_94 (by decide) (fun hc51 => ?_) (fun hc51 => ?_)
      · have h := ip hc51 h
        refine so_iconst (v := (0 : Int32)) (pc := 98) hX dX10_ends_98 (by decide) ?_
        refine so_istore_n (pc := 99) hX dX10_ends_99 [(3, .int (0 : Int32)), (2, .int e1), (1, .int ((64 : Int32) * (μ.1 0 44))), (0, .ref (evA (xV X) 0))] (by rw [hn]; decide) rfl ?_
        refine so_sub (pc := 100) (lv' := [(0, .ref (evA (xV X) 0)), (1, .int ((64 : Int32) * (μ.1 0 44))), (2, .int e1), (3, .int (0 : Int32))]) [3, 2, 1, 0] rfl ?_
        refine g_X10_ends_L100 hX hL hn hR (fun μ52 h => ?_) FU _ _ h
        refine so_aload_n (pc := 172) hX dX10_ends_172 0 rfl ?_
        refine so_gR (pc := 173) hX 27 dX10_ends_173 fl_X10_92 (ekM hL rfl) (erM hL rfl) ?_
        refine so_aload_n (pc := 176) hX dX10_ends_176 0 rfl ?_
        refine so_gI (pc := 177) hX dX10_ends_177 fl_X10_224 (ekM hL rfl) ?_
        refine so_iload_n (pc := 180) hX dX10_ends_180 1 rfl ?_
        refine so_aload_n (pc := 181) hX dX10_ends_181 0 rfl ?_
        refine so_gR (pc := 182) hX 30 dX10_ends_182 fl_X10_101 (ekM hL rfl) (erM hL rfl) ?_
        refine so_aload_n (pc := 185) hX dX10_ends_185 0 rfl ?_
        refine so_gI (pc := 186) hX dX10_ends_186 fl_X10_224 (ekM hL rfl) ?_
        obtain ⟨e53, hr, h⟩ := ob h
        refine so_iald (pc := 189) hX dX10_ends_189 (ekM hL rfl) (elM hL rfl) hr ?_
        refine so_iadd (pc := 190) hX dX10_ends_190 ?_
        obtain ⟨μ54, hr, h⟩ := ob h
        refine so_iast (pc := 191) hX dX10_ends_191 (ekM hL rfl) (elM hL rfl) hr ?_
        refine so_aload_n (pc := 192) hX dX10_ends_192 0 rfl ?_
        refine so_gR (pc := 193) hX 28 dX10_ends_193 fl_X10_95 (ekM hL rfl) (erM hL rfl) ?_
        refine so_aload_n (pc := 196) hX dX10_ends_196 0 rfl ?_
        refine so_gI (pc := 197) hX dX10_ends_197 fl_X10_224 (ekM hL rfl) ?_
        refine so_aload_n (pc := 200) hX dX10_ends_200 0 rfl ?_
        refine so_gR (pc := 201) hX 31 dX10_ends_201 fl_X10_104 (ekM hL rfl) (erM hL rfl) ?_
        refine so_aload_n (pc := 204) hX dX10_ends_204 0 rfl ?_
        refine so_gI (pc := 205) hX dX10_ends_205 fl_X10_224 (ekM hL rfl) ?_
        obtain ⟨e55, hr, h⟩ := ob h
        refine so_iald (pc := 208) hX dX10_ends_208 (ekM hL rfl) (elM hL rfl) hr ?_
        obtain ⟨μ56, hr, h⟩ := ob h
        refine so_iast (pc := 209) hX dX10_ends_209 (ekM hL rfl) (elM hL rfl) hr ?_
        refine so_aload_n (pc := 210) hX dX10_ends_210 0 rfl ?_
        refine so_gR (pc := 211) hX 30 dX10_ends_211 fl_X10_101 (ekM hL rfl) (erM hL rfl) ?_
        refine so_aload_n (pc := 214) hX dX10_ends_214 0 rfl ?_
        refine so_gI (pc := 215) hX dX10_ends_215 fl_X10_224 (ekM hL rfl) ?_
        refine so_iconst (v := (0 : Int32)) (pc := 218) hX dX10_ends_218 (by decide) ?_
        obtain ⟨μ57, hr, h⟩ := ob h
        refine so_iast (pc := 219) hX dX10_ends_219 (ekM hL rfl) (elM hL rfl) hr ?_
        exact so_vretH (pc := 220) hX hR h dX10_ends_220
      · have h := iq hc51 h
        exact so_vretH (pc := 97) hX hR h dX10_ends_97
set_option maxHeartbeats 4000000 in
set_option maxRecDepth 100000 in
theorem g_X10_rowIsPart_L28 {X : Cx} (hX : Fx X cX10_rowIsPart RX10 0) (hL : (xV X).2.2.2 = lyM) (hn : xn X = 2) {μZ : Mem} (hR : Rt X none μZ none)   {K : Mem → Option (Mem)} (hK : ∀  (μ : Mem), K μ = some μZ → Gd X 60 [] [] μ) : ∀ (n : Nat) (v1 : Int32) (μ : Mem), f_X10_rowIsPart_L28  K n v1 μ = some μZ → Gd X 28 [(0, .ref (evA (xV X) 0)), (1, .int v1)] [] μ := by
  intro n
  induction n with
  | zero => intro _ _ h; rw [f_X10_rowIsPart_L28] at h; cases h
  | succ n ih =>
    intro v1 μ h
    rw [f_X10_rowIsPart_L28] at h
    refine so_iload_n (pc := 28) hX dX10_rowIsPart_28 1 rfl ?_
    refine so_bipush (v := (64 : Int32)) (pc := 29) hX dX10_rowIsPart_29 (by decide) ?_
    refine so_icmp_ge (pc := 31) hX 60 dX10_rowIsPart_31 (by decide) (fun hc3 => ?_) (fun hc3 => ?_)
    · have h := ip hc3 h
      refine so_sub (pc := 60) (lv' := []) [] rfl ?_
      exact hK _ h
    · have h := iq hc3 h
      refine so_aload_n (pc := 34) hX dX10_rowIsPart_34 0 rfl ?_
      refine so_gR (pc := 35) hX 25 dX10_rowIsPart_35 fl_X10_86 (ekM hL rfl) (erM hL rfl) ?_
      refine so_iload_n (pc := 38) hX dX10_rowIsPart_38 1 rfl ?_
      refine so_aload_n (pc := 39) hX dX10_rowIsPart_39 0 rfl ?_
      refine so_gR (pc := 40) hX 29 dX10_rowIsPart_40 fl_X10_98 (ekM hL rfl) (erM hL rfl) ?_
      refine so_bipush (v := (64 : Int32)) (pc := 43) hX dX10_rowIsPart_43 (by decide) ?_
      refine so_aload_n (pc := 45) hX dX10_rowIsPart_45 0 rfl ?_
      refine so_gI (pc := 46) hX dX10_rowIsPart_46 fl_X10_224 (ekM hL rfl) ?_
      refine so_imul (pc := 49) hX dX10_rowIsPart_49 ?_
      refine so_iload_n (pc := 50) hX dX10_rowIsPart_50 1 rfl ?_
      refine so_iadd (pc := 51) hX dX10_rowIsPart_51 ?_
      obtain ⟨e4, hr, h⟩ := ob h
      refine so_iald (pc := 52) hX dX10_rowIsPart_52 (ekM hL rfl) (elM hL rfl) hr ?_
      obtain ⟨μ5, hr, h⟩ := ob h
      refine so_iast (pc := 53) hX dX10_rowIsPart_53 (ekM hL rfl) (elM hL rfl) hr ?_
      refine so_iinc (pc := 54) hX dX10_rowIsPart_54 1 (1 : Int32) [(1, .int (v1 + (1 : Int32))), (0, .ref (evA (xV X) 0))] rfl (by decide) (by rw [hn]; decide) rfl ?_
      refine so_goto (pc := 57) hX 28 dX10_rowIsPart_57 (by decide) ?_
      refine so_sub (pc := 28) (lv' := [(0, .ref (evA (xV X) 0)), (1, .int (v1 + (1 : Int32)))]) [1, 0] rfl ?_
      exact ih _ _ h
set_option maxHeartbeats 4000000 in
set_option maxRecDepth 100000 in
theorem c_X10_rowIsPart {l : Launch} {V : Ev} (hL : V.2.2.2 = lyM)   {μ : Mem} {μZ : Mem} (h : f_X10_rowIsPart  μ = some μZ) : CT l V yX10_rowIsPart cX10_rowIsPart 2 none 0 [.ref (evA V 0)] μ μZ none := by
  refine so_met [(0, .ref (evA V 0))] (by decide) (Nat.le_of_ble_eq_true rfl) (evMn hL) rfl ?_
  intro X hl hV hn hX hR
  subst hl hV
  unfold f_X10_rowIsPart at h
  refine so_aload_n (pc := 0) hX dX10_rowIsPart_0 0 rfl ?_
  refine so_aload_n (pc := 1) hX dX10_rowIsPart_1 0 rfl ?_
  refine so_gR (pc := 2) hX 27 dX10_rowIsPart_2 fl_X10_92 (ekM hL rfl) (erM hL rfl) ?_
  refine so_aload_n (pc := 5) hX dX10_rowIsPart_5 0 rfl ?_
  refine so_gI (pc := 6) hX dX10_rowIsPart_6 fl_X10_224 (ekM hL rfl) ?_
  obtain ⟨e1, hr, h⟩ := ob h
  refine so_iald (pc := 9) hX dX10_rowIsPart_9 (ekM hL rfl) (elM hL rfl) hr ?_
  refine so_pI (pc := 10) hX dX10_rowIsPart_10 fl_X10_236 fw_10_32 (ekM hL rfl) rfl rfl ?_
  refine so_aload_n (pc := 13) hX dX10_rowIsPart_13 0 rfl ?_
  refine so_aload_n (pc := 14) hX dX10_rowIsPart_14 0 rfl ?_
  refine so_gR (pc := 15) hX 28 dX10_rowIsPart_15 fl_X10_95 (ekM hL rfl) (erM hL rfl) ?_
  refine so_aload_n (pc := 18) hX dX10_rowIsPart_18 0 rfl ?_
  refine so_gI (pc := 19) hX dX10_rowIsPart_19 fl_X10_224 (ekM hL rfl) ?_
  obtain ⟨e2, hr, h⟩ := ob h
  refine so_iald (pc := 22) hX dX10_rowIsPart_22 (ekM hL rfl) (elM hL rfl) hr ?_
  refine so_pI (pc := 23) hX dX10_rowIsPart_23 fl_X10_233 fw_10_33 (ekM hL rfl) rfl rfl ?_
  refine so_iconst (v := (0 : Int32)) (pc := 26) hX dX10_rowIsPart_26 (by decide) ?_
  refine so_istore_n (pc := 27) hX dX10_rowIsPart_27 [(1, .int (0 : Int32)), (0, .ref (evA (xV X) 0))] (by rw [hn]; decide) rfl ?_
  refine so_sub (pc := 28) (lv' := [(0, .ref (evA (xV X) 0)), (1, .int (0 : Int32))]) [1, 0] rfl ?_
  refine g_X10_rowIsPart_L28 hX hL hn hR (fun μ6 h => ?_) FU _ _ h
  exact so_vretH (pc := 60) hX hR h dX10_rowIsPart_60
set_option maxHeartbeats 4000000 in
set_option maxRecDepth 100000 in
theorem c_X10_parts {l : Launch} {V : Ev} (hL : V.2.2.2 = lyM)   {μ : Mem} {rZ : Int32} {μZ : Mem} (h : f_X10_parts  μ = some (rZ, μZ)) : CT l V yX10_parts cX10_parts 3 (some .boolean) 2 [.ref (evA V 0)] μ μZ (some (.int rZ)) := by
  refine so_met [(0, .ref (evA V 0))] (by decide) (Nat.le_of_ble_eq_true rfl) (evMn hL) rfl ?_
  intro X hl hV hn hX hR
  subst hl hV
  unfold f_X10_parts at h
  refine so_aload_n (pc := 0) hX dX10_parts_0 0 rfl ?_
  obtain ⟨r2, μ1, hr, h⟩ := obd h
  refine so_callV (As := []) (rest := []) (pc := 1) hX dX10_parts_1 (c_X10_next hL hr) mw_X10_next mv_X10_next ml_X10_246 (ekM hL rfl) (by decide) rfl rfl rfl rfl (by omega) (by decide) (Nat.le_of_ble_eq_true rfl) ?_
  refine so_istore_n (pc := 4) hX dX10_parts_4 [(1, .int r2), (0, .ref (evA (xV X) 0))] (by rw [hn]; decide) rfl ?_
  refine so_aload_n (pc := 5) hX dX10_parts_5 1 rfl ?_
  refine so_gI (pc := 6) hX dX10_parts_6 fl_X10_218 (ekM hL rfl) ?_
  refine so_istore_n (pc := 9) hX dX10_parts_9 [(2, .int (μ1.1 0 26)), (1, .int r2), (0, .ref (evA (xV X) 0))] (by rw [hn]; decide) rfl ?_
  refine so_iload_n (pc := 10) hX dX10_parts_10 1 rfl ?_
  refine so_bipush (v := (48 : Int32)) (pc := 11) hX dX10_parts_11 (by decide) ?_
  refine so_icmp_lt (pc := 13) hX 96 dX10_parts_13 (by decide) (fun hc3 => ?_) (fun hc3 => ?_)
  · have h := ip hc3 h
    refine so_iload_n (pc := 96) hX dX10_parts_96 1 rfl ?_
    refine so_bipush (v := (40 : Int32)) (pc := 97) hX dX10_parts_97 (by decide) ?_
    refine so_icmp_eq (pc := 99) hX 125 dX10_parts_99 (by decide) (fun hc4 => ?_) (fun hc4 => ?_)
    · have h := ip hc4 h
      refine so_aload_n (pc := 125) hX dX10_parts_125 2 rfl ?_
      refine so_iload_n (pc := 126) hX dX10_parts_126 1 rfl ?_
      refine so_iconst (v := (0 : Int32)) (pc := 127) hX dX10_parts_127 (by decide) ?_
      refine so_iload_n (pc := 128) hX dX10_parts_128 0 rfl ?_
      refine so_iload_n (pc := 129) hX dX10_parts_129 0 rfl ?_
      obtain ⟨μ5, hr, h⟩ := ob h
      refine so_callV (As := [.int r2, .int (0 : Int32), .int (μ1.1 0 26), .int (μ1.1 0 26)]) (rest := []) (pc := 130) hX dX10_parts_130 (c_X10_opens hL hr) mw_X10_opens mv_X10_opens ml_X10_250 (ekM hL rfl) (by decide) rfl rfl rfl rfl (by omega) (by decide) (Nat.le_of_ble_eq_true rfl) ?_
      refine so_aload_n (pc := 133) hX dX10_parts_133 2 rfl ?_
      refine so_dup (pc := 134) hX dX10_parts_134 rfl ?_
      refine so_gI (pc := 135) hX dX10_parts_135 fl_X10_218 (ekM hL rfl) ?_
      refine so_iconst (v := (1 : Int32)) (pc := 138) hX dX10_parts_138 (by decide) ?_
      refine so_iadd (pc := 139) hX dX10_parts_139 ?_
      refine so_pI (pc := 140) hX dX10_parts_140 fl_X10_218 fw_10_26 (ekM hL rfl) rfl rfl ?_
      refine so_iload_n (pc := 143) hX dX10_parts_143 1 rfl ?_
      refine so_bipush (v := (40 : Int32)) (pc := 144) hX dX10_parts_144 (by decide) ?_
      refine so_icmp_ne (pc := 146) hX 170 dX10_parts_146 (by decide) (fun hz => absurd hc4 hz) (fun _ => ?_)
      refine so_aload_n (pc := 149) hX dX10_parts_149 2 rfl ?_
      refine so_gI (pc := 150) hX dX10_parts_150 fl_X10_212 (ekM hL rfl) ?_
      refine so_if_ne (pc := 153) hX 170 dX10_parts_153 (by decide) (fun hc6 => ?_) (fun hc6 => ?_)
      · have h := iq hc6 h
        refine so_iconst (v := (0 : Int32)) (pc := 170) hX dX10_parts_170 (by decide) ?_
        exact so_iretH (pc := 171) hX hR h (by decide) dX10_parts_171
      · have h := ip hc6 h
        refine so_aload_n (pc := 156) hX dX10_parts_156 2 rfl ?_
        refine so_dup (pc := 157) hX dX10_parts_157 rfl ?_
        refine so_gI (pc := 158) hX dX10_parts_158 fl_X10_224 (ekM hL rfl) ?_
        refine so_iconst (v := (1 : Int32)) (pc := 161) hX dX10_parts_161 (by decide) ?_
        refine so_iadd (pc := 162) hX dX10_parts_162 ?_
        refine so_pI (pc := 163) hX dX10_parts_163 fl_X10_224 fw_10_44 (ekM hL rfl) rfl rfl ?_
        refine so_aload_n (pc := 166) hX dX10_parts_166 2 rfl ?_
        obtain ⟨μ7, hr, h⟩ := ob h
        refine so_callV (As := []) (rest := []) (pc := 167) hX dX10_parts_167 (c_X10_begins hL hr) mw_X10_begins mv_X10_begins ml_X10_254 (ekM hL rfl) (by decide) rfl rfl rfl rfl (by omega) (by decide) (Nat.le_of_ble_eq_true rfl) ?_
        refine so_iconst (v := (0 : Int32)) (pc := 170) hX dX10_parts_170 (by decide) ?_
        exact so_iretH (pc := 171) hX hR h (by decide) dX10_parts_171
    · have h := iq hc4 h
      refine so_iload_n (pc := 102) hX dX10_parts_102 1 rfl ?_
      refine so_bipush (v := (33 : Int32)) (pc := 103) hX dX10_parts_103 (by decide) ?_
      refine so_icmp_eq (pc := 105) hX 125 dX10_parts_105 (by decide) (fun hc8 => ?_) (fun hc8 => ?_)
      · have h := ip hc8 h
        refine so_aload_n (pc := 125) hX dX10_parts_125 2 rfl ?_
        refine so_iload_n (pc := 126) hX dX10_parts_126 1 rfl ?_
        refine so_iconst (v := (0 : Int32)) (pc := 127) hX dX10_parts_127 (by decide) ?_
        refine so_iload_n (pc := 128) hX dX10_parts_128 0 rfl ?_
        refine so_iload_n (pc := 129) hX dX10_parts_129 0 rfl ?_
        obtain ⟨μ9, hr, h⟩ := ob h
        refine so_callV (As := [.int r2, .int (0 : Int32), .int (μ1.1 0 26), .int (μ1.1 0 26)]) (rest := []) (pc := 130) hX dX10_parts_130 (c_X10_opens hL hr) mw_X10_opens mv_X10_opens ml_X10_250 (ekM hL rfl) (by decide) rfl rfl rfl rfl (by omega) (by decide) (Nat.le_of_ble_eq_true rfl) ?_
        refine so_aload_n (pc := 133) hX dX10_parts_133 2 rfl ?_
        refine so_dup (pc := 134) hX dX10_parts_134 rfl ?_
        refine so_gI (pc := 135) hX dX10_parts_135 fl_X10_218 (ekM hL rfl) ?_
        refine so_iconst (v := (1 : Int32)) (pc := 138) hX dX10_parts_138 (by decide) ?_
        refine so_iadd (pc := 139) hX dX10_parts_139 ?_
        refine so_pI (pc := 140) hX dX10_parts_140 fl_X10_218 fw_10_26 (ekM hL rfl) rfl rfl ?_
        refine so_iload_n (pc := 143) hX dX10_parts_143 1 rfl ?_
        refine so_bipush (v := (40 : Int32)) (pc := 144) hX dX10_parts_144 (by decide) ?_
        refine so_icmp_ne (pc := 146) hX 170 dX10_parts_146 (by decide) (fun _ => ?_) (fun hz => absurd hz hc4)
        refine so_iconst (v := (0 : Int32)) (pc := 170) hX dX10_parts_170 (by decide) ?_
        exact so_iretH (pc := 171) hX hR h (by decide) dX10_parts_171
      · have h := iq hc8 h
        refine so_iload_n (pc := 108) hX dX10_parts_108 1 rfl ?_
        refine so_bipush (v := (126 : Int32)) (pc := 109) hX dX10_parts_109 (by decide) ?_
        refine so_icmp_eq (pc := 111) hX 125 dX10_parts_111 (by decide) (fun hc10 => ?_) (fun hc10 => ?_)
        · have h := ip hc10 h
          refine so_aload_n (pc := 125) hX dX10_parts_125 2 rfl ?_
          refine so_iload_n (pc := 126) hX dX10_parts_126 1 rfl ?_
          refine so_iconst (v := (0 : Int32)) (pc := 127) hX dX10_parts_127 (by decide) ?_
          refine so_iload_n (pc := 128) hX dX10_parts_128 0 rfl ?_
          refine so_iload_n (pc := 129) hX dX10_parts_129 0 rfl ?_
          obtain ⟨μ11, hr, h⟩ := ob h
          refine so_callV (As := [.int r2, .int (0 : Int32), .int (μ1.1 0 26), .int (μ1.1 0 26)]) (rest := []) (pc := 130) hX dX10_parts_130 (c_X10_opens hL hr) mw_X10_opens mv_X10_opens ml_X10_250 (ekM hL rfl) (by decide) rfl rfl rfl rfl (by omega) (by decide) (Nat.le_of_ble_eq_true rfl) ?_
          refine so_aload_n (pc := 133) hX dX10_parts_133 2 rfl ?_
          refine so_dup (pc := 134) hX dX10_parts_134 rfl ?_
          refine so_gI (pc := 135) hX dX10_parts_135 fl_X10_218 (ekM hL rfl) ?_
          refine so_iconst (v := (1 : Int32)) (pc := 138) hX dX10_parts_138 (by decide) ?_
          refine so_iadd (pc := 139) hX dX10_parts_139 ?_
          refine so_pI (pc := 140) hX dX10_parts_140 fl_X10_218 fw_10_26 (ekM hL rfl) rfl rfl ?_
          refine so_iload_n (pc := 143) hX dX10_parts_143 1 rfl ?_
          refine so_bipush (v := (40 : Int32)) (pc := 144) hX dX10_parts_144 (by decide) ?_
          refine so_icmp_ne (pc := 146) hX 170 dX10_parts_146 (by decide) (fun _ => ?_) (fun hz => absurd hz hc4)
          refine so_iconst (v := (0 : Int32)) (pc := 170) hX dX10_parts_170 (by decide) ?_
          exact so_iretH (pc := 171) hX hR h (by decide) dX10_parts_171
        · have h := iq hc10 h
          refine so_aload_n (pc := 114) hX dX10_parts_114 2 rfl ?_
          refine so_iconst (v := (1 : Int32)) (pc := 115) hX dX10_parts_115 (by decide) ?_
          refine so_aload_n (pc := 116) hX dX10_parts_116 2 rfl ?_
          refine so_gI (pc := 117) hX dX10_parts_117 fl_X10_218 (ekM hL rfl) ?_
          obtain ⟨μ12, hr, h⟩ := ob h
          refine so_callV (As := [.int (1 : Int32), .int (μ1.1 0 26)]) (rest := []) (pc := 120) hX dX10_parts_120 (c_X10_fail hL hr) mw_X10_fail mv_X10_fail ml_X10_230 (ekM hL rfl) (by decide) rfl rfl rfl rfl (by omega) (by decide) (Nat.le_of_ble_eq_true rfl) ?_
          refine so_iconst (v := (0 : Int32)) (pc := 123) hX dX10_parts_123 (by decide) ?_
          exact so_iretH (pc := 124) hX hR h (by decide) dX10_parts_124
  · have h := iq hc3 h
    refine so_iload_n (pc := 16) hX dX10_parts_16 1 rfl ?_
    refine so_bipush (v := (57 : Int32)) (pc := 17) hX dX10_parts_17 (by decide) ?_
    refine so_icmp_gt (pc := 19) hX 96 dX10_parts_19 (by decide) (fun hc13 => ?_) (fun hc13 => ?_)
    · have h := ip hc13 h
      refine so_iload_n (pc := 96) hX dX10_parts_96 1 rfl ?_
      refine so_bipush (v := (40 : Int32)) (pc := 97) hX dX10_parts_97 (by decide) ?_
      refine so_icmp_eq (pc := 99) hX 125 dX10_parts_99 (by decide) (fun hc14 => ?_) (fun hc14 => ?_)
      · have h := ip hc14 h
        refine so_aload_n (pc := 125) hX dX10_parts_125 2 rfl ?_
        refine so_iload_n (pc := 126) hX dX10_parts_126 1 rfl ?_
        refine so_iconst (v := (0 : Int32)) (pc := 127) hX dX10_parts_127 (by decide) ?_
        refine so_iload_n (pc := 128) hX dX10_parts_128 0 rfl ?_
        refine so_iload_n (pc := 129) hX dX10_parts_129 0 rfl ?_
        obtain ⟨μ15, hr, h⟩ := ob h
        refine so_callV (As := [.int r2, .int (0 : Int32), .int (μ1.1 0 26), .int (μ1.1 0 26)]) (rest := []) (pc := 130) hX dX10_parts_130 (c_X10_opens hL hr) mw_X10_opens mv_X10_opens ml_X10_250 (ekM hL rfl) (by decide) rfl rfl rfl rfl (by omega) (by decide) (Nat.le_of_ble_eq_true rfl) ?_
        refine so_aload_n (pc := 133) hX dX10_parts_133 2 rfl ?_
        refine so_dup (pc := 134) hX dX10_parts_134 rfl ?_
        refine so_gI (pc := 135) hX dX10_parts_135 fl_X10_218 (ekM hL rfl) ?_
        refine so_iconst (v := (1 : Int32)) (pc := 138) hX dX10_parts_138 (by decide) ?_
        refine so_iadd (pc := 139) hX dX10_parts_139 ?_
        refine so_pI (pc := 140) hX dX10_parts_140 fl_X10_218 fw_10_26 (ekM hL rfl) rfl rfl ?_
        refine so_iload_n (pc := 143) hX dX10_parts_143 1 rfl ?_
        refine so_bipush (v := (40 : Int32)) (pc := 144) hX dX10_parts_144 (by decide) ?_
        refine so_icmp_ne (pc := 146) hX 170 dX10_parts_146 (by decide) (fun hz => absurd hc14 hz) (fun _ => ?_)
        refine so_aload_n (pc := 149) hX dX10_parts_149 2 rfl ?_
        refine so_gI (pc := 150) hX dX10_parts_150 fl_X10_212 (ekM hL rfl) ?_
        refine so_if_ne (pc := 153) hX 170 dX10_parts_153 (by decide) (fun hc16 => ?_) (fun hc16 => ?_)
        · have h := iq hc16 h
          refine so_iconst (v := (0 : Int32)) (pc := 170) hX dX10_parts_170 (by decide) ?_
          exact so_iretH (pc := 171) hX hR h (by decide) dX10_parts_171
        · have h := ip hc16 h
          refine so_aload_n (pc := 156) hX dX10_parts_156 2 rfl ?_
          refine so_dup (pc := 157) hX dX10_parts_157 rfl ?_
          refine so_gI (pc := 158) hX dX10_parts_158 fl_X10_224 (ekM hL rfl) ?_
          refine so_iconst (v := (1 : Int32)) (pc := 161) hX dX10_parts_161 (by decide) ?_
          refine so_iadd (pc := 162) hX dX10_parts_162 ?_
          refine so_pI (pc := 163) hX dX10_parts_163 fl_X10_224 fw_10_44 (ekM hL rfl) rfl rfl ?_
          refine so_aload_n (pc := 166) hX dX10_parts_166 2 rfl ?_
          obtain ⟨μ17, hr, h⟩ := ob h
          refine so_callV (As := []) (rest := []) (pc := 167) hX dX10_parts_167 (c_X10_begins hL hr) mw_X10_begins mv_X10_begins ml_X10_254 (ekM hL rfl) (by decide) rfl rfl rfl rfl (by omega) (by decide) (Nat.le_of_ble_eq_true rfl) ?_
          refine so_iconst (v := (0 : Int32)) (pc := 170) hX dX10_parts_170 (by decide) ?_
          exact so_iretH (pc := 171) hX hR h (by decide) dX10_parts_171
      · have h := iq hc14 h
        refine so_iload_n (pc := 102) hX dX10_parts_102 1 rfl ?_
        refine so_bipush (v := (33 : Int32)) (pc := 103) hX dX10_parts_103 (by decide) ?_
        refine so_icmp_eq (pc := 105) hX 125 dX10_parts_105 (by decide) (fun hc18 => ?_) (fun hc18 => ?_)
        · have h := ip hc18 h
          refine so_aload_n (pc := 125) hX dX10_parts_125 2 rfl ?_
          refine so_iload_n (pc := 126) hX dX10_parts_126 1 rfl ?_
          refine so_iconst (v := (0 : Int32)) (pc := 127) hX dX10_parts_127 (by decide) ?_
          refine so_iload_n (pc := 128) hX dX10_parts_128 0 rfl ?_
          refine so_iload_n (pc := 129) hX dX10_parts_129 0 rfl ?_
          obtain ⟨μ19, hr, h⟩ := ob h
          refine so_callV (As := [.int r2, .int (0 : Int32), .int (μ1.1 0 26), .int (μ1.1 0 26)]) (rest := []) (pc := 130) hX dX10_parts_130 (c_X10_opens hL hr) mw_X10_opens mv_X10_opens ml_X10_250 (ekM hL rfl) (by decide) rfl rfl rfl rfl (by omega) (by decide) (Nat.le_of_ble_eq_true rfl) ?_
          refine so_aload_n (pc := 133) hX dX10_parts_133 2 rfl ?_
          refine so_dup (pc := 134) hX dX10_parts_134 rfl ?_
          refine so_gI (pc := 135) hX dX10_parts_135 fl_X10_218 (ekM hL rfl) ?_
          refine so_iconst (v := (1 : Int32)) (pc := 138) hX dX10_parts_138 (by decide) ?_
          refine so_iadd (pc := 139) hX dX10_parts_139 ?_
          refine so_pI (pc := 140) hX dX10_parts_140 fl_X10_218 fw_10_26 (ekM hL rfl) rfl rfl ?_
          refine so_iload_n (pc := 143) hX dX10_parts_143 1 rfl ?_
          refine so_bipush (v := (40 : Int32)) (pc := 144) hX dX10_parts_144 (by decide) ?_
          refine so_icmp_ne (pc := 146) hX 170 dX10_parts_146 (by decide) (fun _ => ?_) (fun hz => absurd hz hc14)
          refine so_iconst (v := (0 : Int32)) (pc := 170) hX dX10_parts_170 (by decide) ?_
          exact so_iretH (pc := 171) hX hR h (by decide) dX10_parts_171
        · have h := iq hc18 h
          refine so_iload_n (pc := 108) hX dX10_parts_108 1 rfl ?_
          refine so_bipush (v := (126 : Int32)) (pc := 109) hX dX10_parts_109 (by decide) ?_
          refine so_icmp_eq (pc := 111) hX 125 dX10_parts_111 (by decide) (fun hc20 => ?_) (fun hc20 => ?_)
          · have h := ip hc20 h
            refine so_aload_n (pc := 125) hX dX10_parts_125 2 rfl ?_
            refine so_iload_n (pc := 126) hX dX10_parts_126 1 rfl ?_
            refine so_iconst (v := (0 : Int32)) (pc := 127) hX dX10_parts_127 (by decide) ?_
            refine so_iload_n (pc := 128) hX dX10_parts_128 0 rfl ?_
            refine so_iload_n (pc := 129) hX dX10_parts_129 0 rfl ?_
            obtain ⟨μ21, hr, h⟩ := ob h
            refine so_callV (As := [.int r2, .int (0 : Int32), .int (μ1.1 0 26), .int (μ1.1 0 26)]) (rest := []) (pc := 130) hX dX10_parts_130 (c_X10_opens hL hr) mw_X10_opens mv_X10_opens ml_X10_250 (ekM hL rfl) (by decide) rfl rfl rfl rfl (by omega) (by decide) (Nat.le_of_ble_eq_true rfl) ?_
            refine so_aload_n (pc := 133) hX dX10_parts_133 2 rfl ?_
            refine so_dup (pc := 134) hX dX10_parts_134 rfl ?_
            refine so_gI (pc := 135) hX dX10_parts_135 fl_X10_218 (ekM hL rfl) ?_
            refine so_iconst (v := (1 : Int32)) (pc := 138) hX dX10_parts_138 (by decide) ?_
            refine so_iadd (pc := 139) hX dX10_parts_139 ?_
            refine so_pI (pc := 140) hX dX10_parts_140 fl_X10_218 fw_10_26 (ekM hL rfl) rfl rfl ?_
            refine so_iload_n (pc := 143) hX dX10_parts_143 1 rfl ?_
            refine so_bipush (v := (40 : Int32)) (pc := 144) hX dX10_parts_144 (by decide) ?_
            refine so_icmp_ne (pc := 146) hX 170 dX10_parts_146 (by decide) (fun _ => ?_) (fun hz => absurd hz hc14)
            refine so_iconst (v := (0 : Int32)) (pc := 170) hX dX10_parts_170 (by decide) ?_
            exact so_iretH (pc := 171) hX hR h (by decide) dX10_parts_171
          · have h := iq hc20 h
            refine so_aload_n (pc := 114) hX dX10_parts_114 2 rfl ?_
            refine so_iconst (v := (1 : Int32)) (pc := 115) hX dX10_parts_115 (by decide) ?_
            refine so_aload_n (pc := 116) hX dX10_parts_116 2 rfl ?_
            refine so_gI (pc := 117) hX dX10_parts_117 fl_X10_218 (ekM hL rfl) ?_
            obtain ⟨μ22, hr, h⟩ := ob h
            refine so_callV (As := [.int (1 : Int32), .int (μ1.1 0 26)]) (rest := []) (pc := 120) hX dX10_parts_120 (c_X10_fail hL hr) mw_X10_fail mv_X10_fail ml_X10_230 (ekM hL rfl) (by decide) rfl rfl rfl rfl (by omega) (by decide) (Nat.le_of_ble_eq_true rfl) ?_
            refine so_iconst (v := (0 : Int32)) (pc := 123) hX dX10_parts_123 (by decide) ?_
            exact so_iretH (pc := 124) hX hR h (by decide) dX10_parts_124
    · have h := iq hc13 h
      refine so_aload_n (pc := 22) hX dX10_parts_22 2 rfl ?_
      refine so_dup (pc := 23) hX dX10_parts_23 rfl ?_
      refine so_gI (pc := 24) hX dX10_parts_24 fl_X10_218 (ekM hL rfl) ?_
      refine so_iconst (v := (1 : Int32)) (pc := 27) hX dX10_parts_27 (by decide) ?_
      refine so_iadd (pc := 28) hX dX10_parts_28 ?_
      refine so_pI (pc := 29) hX dX10_parts_29 fl_X10_218 fw_10_26 (ekM hL rfl) rfl rfl ?_
      refine so_iload_n (pc := 32) hX dX10_parts_32 1 rfl ?_
      refine so_bipush (v := (49 : Int32)) (pc := 33) hX dX10_parts_33 (by decide) ?_
      refine so_icmp_le (pc := 35) hX 74 dX10_parts_35 (by decide) (fun hc23 => ?_) (fun hc23 => ?_)
      · have h := ip hc23 h
        refine so_aload_n (pc := 74) hX dX10_parts_74 2 rfl ?_
        refine so_iconst (v := (1 : Int32)) (pc := 75) hX dX10_parts_75 (by decide) ?_
        refine so_pI (pc := 76) hX dX10_parts_76 fl_X10_236 fw_10_32 (ekM hL rfl) rfl rfl ?_
        refine so_aload_n (pc := 79) hX dX10_parts_79 2 rfl ?_
        refine so_iconst (v := (1 : Int32)) (pc := 80) hX dX10_parts_80 (by decide) ?_
        refine so_pI (pc := 81) hX dX10_parts_81 fl_X10_233 fw_10_33 (ekM hL rfl) rfl rfl ?_
        refine so_aload_n (pc := 84) hX dX10_parts_84 2 rfl ?_
        refine so_gR (pc := 85) hX 25 dX10_parts_85 fl_X10_86 (ekM hL rfl) (erM hL rfl) ?_
        refine so_iconst (v := (0 : Int32)) (pc := 88) hX dX10_parts_88 (by decide) ?_
        refine so_iload_n (pc := 89) hX dX10_parts_89 1 rfl ?_
        refine so_bipush (v := (48 : Int32)) (pc := 90) hX dX10_parts_90 (by decide) ?_
        refine so_isub (pc := 92) hX dX10_parts_92 ?_
        obtain ⟨μ24, hr, h⟩ := ob h
        refine so_iast (pc := 93) hX dX10_parts_93 (ekM hL rfl) (elM hL rfl) hr ?_
        refine so_iconst (v := (1 : Int32)) (pc := 94) hX dX10_parts_94 (by decide) ?_
        exact so_iretH (pc := 95) hX hR h (by decide) dX10_parts_95
      · have h := iq hc23 h
        refine so_aload_n (pc := 38) hX dX10_parts_38 2 rfl ?_
        obtain ⟨r26, μ25, hr, h⟩ := obd h
        refine so_callV (As := []) (rest := []) (pc := 39) hX dX10_parts_39 (c_X10_next hL hr) mw_X10_next mv_X10_next ml_X10_246 (ekM hL rfl) (by decide) rfl rfl rfl rfl (by omega) (by decide) (Nat.le_of_ble_eq_true rfl) ?_
        refine so_bipush (v := (120 : Int32)) (pc := 42) hX dX10_parts_42 (by decide) ?_
        refine so_icmp_ne (pc := 44) hX 74 dX10_parts_44 (by decide) (fun hc27 => ?_) (fun hc27 => ?_)
        · have h := iq hc27 h
          refine so_aload_n (pc := 74) hX dX10_parts_74 2 rfl ?_
          refine so_iconst (v := (1 : Int32)) (pc := 75) hX dX10_parts_75 (by decide) ?_
          refine so_pI (pc := 76) hX dX10_parts_76 fl_X10_236 fw_10_32 (ekM hL rfl) rfl rfl ?_
          refine so_aload_n (pc := 79) hX dX10_parts_79 2 rfl ?_
          refine so_iconst (v := (1 : Int32)) (pc := 80) hX dX10_parts_80 (by decide) ?_
          refine so_pI (pc := 81) hX dX10_parts_81 fl_X10_233 fw_10_33 (ekM hL rfl) rfl rfl ?_
          refine so_aload_n (pc := 84) hX dX10_parts_84 2 rfl ?_
          refine so_gR (pc := 85) hX 25 dX10_parts_85 fl_X10_86 (ekM hL rfl) (erM hL rfl) ?_
          refine so_iconst (v := (0 : Int32)) (pc := 88) hX dX10_parts_88 (by decide) ?_
          refine so_iload_n (pc := 89) hX dX10_parts_89 1 rfl ?_
          refine so_bipush (v := (48 : Int32)) (pc := 90) hX dX10_parts_90 (by decide) ?_
          refine so_isub (pc := 92) hX dX10_parts_92 ?_
          obtain ⟨μ29, hr, h⟩ := ob h
          refine so_iast (pc := 93) hX dX10_parts_93 (ekM hL rfl) (elM hL rfl) hr ?_
          refine so_iconst (v := (1 : Int32)) (pc := 94) hX dX10_parts_94 (by decide) ?_
          exact so_iretH (pc := 95) hX hR h (by decide) dX10_parts_95
        · have h := ip hc27 h
          refine so_aload_n (pc := 47) hX dX10_parts_47 2 rfl ?_
          refine so_bipush (v := (120 : Int32)) (pc := 48) hX dX10_parts_48 (by decide) ?_
          refine so_iload_n (pc := 50) hX dX10_parts_50 1 rfl ?_
          refine so_bipush (v := (48 : Int32)) (pc := 51) hX dX10_parts_51 (by decide) ?_
          refine so_isub (pc := 53) hX dX10_parts_53 ?_
          refine so_iload_n (pc := 54) hX dX10_parts_54 0 rfl ?_
          refine so_aload_n (pc := 55) hX dX10_parts_55 2 rfl ?_
          refine so_gI (pc := 56) hX dX10_parts_56 fl_X10_218 (ekM hL rfl) ?_
          obtain ⟨μ28, hr, h⟩ := ob h
          refine so_callV (As := [.int (120 : Int32), .int (r2 - (48 : Int32)), .int (μ1.1 0 26), .int (μ25.1 0 26)]) (rest := []) (pc := 59) hX dX10_parts_59 (c_X10_opens hL hr) mw_X10_opens mv_X10_opens ml_X10_250 (ekM hL rfl) (by decide) rfl rfl rfl rfl (by omega) (by decide) (Nat.le_of_ble_eq_true rfl) ?_
          refine so_aload_n (pc := 62) hX dX10_parts_62 2 rfl ?_
          refine so_dup (pc := 63) hX dX10_parts_63 rfl ?_
          refine so_gI (pc := 64) hX dX10_parts_64 fl_X10_218 (ekM hL rfl) ?_
          refine so_iconst (v := (1 : Int32)) (pc := 67) hX dX10_parts_67 (by decide) ?_
          refine so_iadd (pc := 68) hX dX10_parts_68 ?_
          refine so_pI (pc := 69) hX dX10_parts_69 fl_X10_218 fw_10_26 (ekM hL rfl) rfl rfl ?_
          refine so_iconst (v := (0 : Int32)) (pc := 72) hX dX10_parts_72 (by decide) ?_
          exact so_iretH (pc := 73) hX hR h (by decide) dX10_parts_73
