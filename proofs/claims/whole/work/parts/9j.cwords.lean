/-! constructors: the words that they need -/
theorem mwI_X0 : Mw yX0_init cX0_init 1 none 0 := ⟨by decide +kernel, by decide +kernel, by decide +kernel, by decide +kernel, by decide +kernel⟩
theorem imI_X0 : Cond.instanceMethod yX0_init ∈ TT := by decide +kernel
theorem mwI_X1 : Mw yX1_init cX1_init 1 none 0 := ⟨by decide +kernel, by decide +kernel, by decide +kernel, by decide +kernel, by decide +kernel⟩
theorem imI_X1 : Cond.instanceMethod yX1_init ∈ TT := by decide +kernel
theorem mwI_X2 : Mw yX2_init cX2_init 1 none 0 := ⟨by decide +kernel, by decide +kernel, by decide +kernel, by decide +kernel, by decide +kernel⟩
theorem imI_X2 : Cond.instanceMethod yX2_init ∈ TT := by decide +kernel
theorem mwI_X3 : Mw yX3_init cX3_init 1 none 0 := ⟨by decide +kernel, by decide +kernel, by decide +kernel, by decide +kernel, by decide +kernel⟩
theorem imI_X3 : Cond.instanceMethod yX3_init ∈ TT := by decide +kernel
theorem mwI_X4 : Mw yX4_init cX4_init 2 none 0 := ⟨by decide +kernel, by decide +kernel, by decide +kernel, by decide +kernel, by decide +kernel⟩
theorem imI_X4 : Cond.instanceMethod yX4_init ∈ TT := by decide +kernel
theorem mwI_X5 : Mw yX5_init cX5_init 1 none 0 := ⟨by decide +kernel, by decide +kernel, by decide +kernel, by decide +kernel, by decide +kernel⟩
theorem imI_X5 : Cond.instanceMethod yX5_init ∈ TT := by decide +kernel
theorem mwI_X6 : Mw yX6_init cX6_init 1 none 0 := ⟨by decide +kernel, by decide +kernel, by decide +kernel, by decide +kernel, by decide +kernel⟩
theorem imI_X6 : Cond.instanceMethod yX6_init ∈ TT := by decide +kernel
theorem mwI_X7 : Mw yX7_init cX7_init 1 none 0 := ⟨by decide +kernel, by decide +kernel, by decide +kernel, by decide +kernel, by decide +kernel⟩
theorem imI_X7 : Cond.instanceMethod yX7_init ∈ TT := by decide +kernel
theorem mwI_X8 : Mw yX8_init cX8_init 2 none 0 := ⟨by decide +kernel, by decide +kernel, by decide +kernel, by decide +kernel, by decide +kernel⟩
theorem imI_X8 : Cond.instanceMethod yX8_init ∈ TT := by decide +kernel
theorem mwI_X9 : Mw yX9_init cX9_init 1 none 0 := ⟨by decide +kernel, by decide +kernel, by decide +kernel, by decide +kernel, by decide +kernel⟩
theorem imI_X9 : Cond.instanceMethod yX9_init ∈ TT := by decide +kernel
theorem mwI_X10 : Mw yX10_init cX10_init 1 none 0 := ⟨by decide +kernel, by decide +kernel, by decide +kernel, by decide +kernel, by decide +kernel⟩
theorem imI_X10 : Cond.instanceMethod yX10_init ∈ TT := by decide +kernel
theorem nw_X9_7 : NwC RX9 7 6 := ⟨RX6, TX6, tyX6, rfl, iw_X6, tyX6_ok, by decide +kernel, by decide +kernel, by decide +kernel, by decide +kernel, by decide⟩
theorem nw_X9_21 : NwC RX9 21 5 := ⟨RX5, TX5, tyX5, rfl, iw_X5, tyX5_ok, by decide +kernel, by decide +kernel, by decide +kernel, by decide +kernel, by decide⟩
theorem nw_X5_9 : NwC RX5 9 8 := ⟨RX8, TX8, tyX8, rfl, iw_X8, tyX8_ok, by decide +kernel, by decide +kernel, by decide +kernel, by decide +kernel, by decide⟩
theorem nw_X6_9 : NwC RX6 9 7 := ⟨RX7, TX7, tyX7, rfl, iw_X7, tyX7_ok, by decide +kernel, by decide +kernel, by decide +kernel, by decide +kernel, by decide⟩
theorem nw_X6_18 : NwC RX6 18 1 := ⟨RX1, TX1, tyX1, rfl, iw_X1, tyX1_ok, by decide +kernel, by decide +kernel, by decide +kernel, by decide +kernel, by decide⟩
theorem nw_X0_9 : NwC RX0 9 1 := ⟨RX1, TX1, tyX1, rfl, iw_X1, tyX1_ok, by decide +kernel, by decide +kernel, by decide +kernel, by decide +kernel, by decide⟩
theorem nw_X4_15 : NwC RX4 15 3 := ⟨RX3, TX3, tyX3, rfl, iw_X3, tyX3_ok, by decide +kernel, by decide +kernel, by decide +kernel, by decide +kernel, by decide⟩
theorem nw_X8_23 : NwC RX8 23 2 := ⟨RX2, TX2, tyX2, rfl, iw_X2, tyX2_ok, by decide +kernel, by decide +kernel, by decide +kernel, by decide +kernel, by decide⟩
theorem nw_X8_9 : NwC RX8 9 4 := ⟨RX4, TX4, tyX4, rfl, iw_X4, tyX4_ok, by decide +kernel, by decide +kernel, by decide +kernel, by decide +kernel, by decide⟩
theorem nw_X8_17 : NwC RX8 17 0 := ⟨RX0, TX0, tyX0, rfl, iw_X0, tyX0_ok, by decide +kernel, by decide +kernel, by decide +kernel, by decide +kernel, by decide⟩
theorem ff_9_0 : FwF RX9 9 0 := ⟨_, _, _, tyX9, tyX9 0, rfl, tyX9_ok, nmX9, rfl, rfl, tyX9_ok 0 (by decide), fun _ => rfl, fun _ => rfl⟩
theorem ff_9_1 : FwF RX9 9 1 := ⟨_, _, _, tyX9, tyX9 1, rfl, tyX9_ok, nmX9, rfl, rfl, tyX9_ok 1 (by decide), fun _ => rfl, fun _ => rfl⟩
theorem ff_9_2 : FwF RX9 9 2 := ⟨_, _, _, tyX9, tyX9 2, rfl, tyX9_ok, nmX9, rfl, rfl, tyX9_ok 2 (by decide), fun _ => rfl, fun _ => rfl⟩
theorem ff_9_3 : FwF RX9 9 3 := ⟨_, _, _, tyX9, tyX9 3, rfl, tyX9_ok, nmX9, rfl, rfl, tyX9_ok 3 (by decide), fun _ => rfl, fun _ => rfl⟩
theorem ff_7_0 : FwF RX7 7 0 := ⟨_, _, _, tyX7, tyX7 0, rfl, tyX7_ok, nmX7, rfl, rfl, tyX7_ok 0 (by decide), fun _ => rfl, fun _ => rfl⟩
theorem ff_6_0 : FwF RX6 6 0 := ⟨_, _, _, tyX6, tyX6 0, rfl, tyX6_ok, nmX6, rfl, rfl, tyX6_ok 0 (by decide), fun _ => rfl, fun _ => rfl⟩
theorem ff_6_1 : FwF RX6 6 1 := ⟨_, _, _, tyX6, tyX6 1, rfl, tyX6_ok, nmX6, rfl, rfl, tyX6_ok 1 (by decide), fun _ => rfl, fun _ => rfl⟩
theorem ff_8_0 : FwF RX8 8 0 := ⟨_, _, _, tyX8, tyX8 0, rfl, tyX8_ok, nmX8, rfl, rfl, tyX8_ok 0 (by decide), fun _ => rfl, fun _ => rfl⟩
theorem ff_8_1 : FwF RX8 8 1 := ⟨_, _, _, tyX8, tyX8 1, rfl, tyX8_ok, nmX8, rfl, rfl, tyX8_ok 1 (by decide), fun _ => rfl, fun _ => rfl⟩
theorem ff_8_2 : FwF RX8 8 2 := ⟨_, _, _, tyX8, tyX8 2, rfl, tyX8_ok, nmX8, rfl, rfl, tyX8_ok 2 (by decide), fun _ => rfl, fun _ => rfl⟩
theorem ff_4_5 : FwF RX4 4 5 := ⟨_, _, _, tyX4, tyX4 5, rfl, tyX4_ok, nmX4, rfl, rfl, tyX4_ok 5 (by decide), fun _ => rfl, fun _ => rfl⟩
theorem ff_4_9 : FwF RX4 4 9 := ⟨_, _, _, tyX4, tyX4 9, rfl, tyX4_ok, nmX4, rfl, rfl, tyX4_ok 9 (by decide), fun _ => rfl, fun _ => rfl⟩
theorem ff_4_10 : FwF RX4 4 10 := ⟨_, _, _, tyX4, tyX4 10, rfl, tyX4_ok, nmX4, rfl, rfl, tyX4_ok 10 (by decide), fun _ => rfl, fun _ => rfl⟩
theorem ff_4_11 : FwF RX4 4 11 := ⟨_, _, _, tyX4, tyX4 11, rfl, tyX4_ok, nmX4, rfl, rfl, tyX4_ok 11 (by decide), fun _ => rfl, fun _ => rfl⟩
theorem ff_0_0 : FwF RX0 0 0 := ⟨_, _, _, tyX0, tyX0 0, rfl, tyX0_ok, nmX0, rfl, rfl, tyX0_ok 0 (by decide), fun _ => rfl, fun _ => rfl⟩
theorem ff_0_1 : FwF RX0 0 1 := ⟨_, _, _, tyX0, tyX0 1, rfl, tyX0_ok, nmX0, rfl, rfl, tyX0_ok 1 (by decide), fun _ => rfl, fun _ => rfl⟩
theorem ff_1_0 : FwF RX1 1 0 := ⟨_, _, _, tyX1, tyX1 0, rfl, tyX1_ok, nmX1, rfl, rfl, tyX1_ok 0 (by decide), fun _ => rfl, fun _ => rfl⟩
theorem ff_2_3 : FwF RX2 2 3 := ⟨_, _, _, tyX2, tyX2 3, rfl, tyX2_ok, nmX2, rfl, rfl, tyX2_ok 3 (by decide), fun _ => rfl, fun _ => rfl⟩
theorem ff_5_0 : FwF RX5 5 0 := ⟨_, _, _, tyX5, tyX5 0, rfl, tyX5_ok, nmX5, rfl, rfl, tyX5_ok 0 (by decide), fun _ => rfl, fun _ => rfl⟩
theorem ff_5_1 : FwF RX5 5 1 := ⟨_, _, _, tyX5, tyX5 1, rfl, tyX5_ok, nmX5, rfl, rfl, tyX5_ok 1 (by decide), fun _ => rfl, fun _ => rfl⟩
theorem ff_5_2 : FwF RX5 5 2 := ⟨_, _, _, tyX5, tyX5 2, rfl, tyX5_ok, nmX5, rfl, rfl, tyX5_ok 2 (by decide), fun _ => rfl, fun _ => rfl⟩
theorem ff_5_3 : FwF RX5 5 3 := ⟨_, _, _, tyX5, tyX5 3, rfl, tyX5_ok, nmX5, rfl, rfl, tyX5_ok 3 (by decide), fun _ => rfl, fun _ => rfl⟩
theorem ff_5_4 : FwF RX5 5 4 := ⟨_, _, _, tyX5, tyX5 4, rfl, tyX5_ok, nmX5, rfl, rfl, tyX5_ok 4 (by decide), fun _ => rfl, fun _ => rfl⟩
theorem fl_X9_16 : FlR RX9 16 6 0 := ⟨⟨_, _, _, rfl, by decide, iw_X6, by decide +kernel⟩, by decide, by decide +kernel, by decide +kernel⟩
theorem fl_X9_28 : FlR RX9 28 5 0 := ⟨⟨_, _, _, rfl, by decide, iw_X5, by decide +kernel⟩, by decide, by decide +kernel, by decide +kernel⟩
