theorem iw_X0 : ∀ w ∈ u_ws RX0 TX0 12, w ∈ TT := TTin (by decide +kernel)
theorem iw_X1 : ∀ w ∈ u_ws RX1 TX1 3, w ∈ TT := TTin (by decide +kernel)
theorem iw_X2 : ∀ w ∈ u_ws RX2 TX2 4, w ∈ TT := TTin (by decide +kernel)
theorem iw_X3 : ∀ w ∈ u_ws RX3 TX3 8, w ∈ TT := TTin (by decide +kernel)
theorem iw_X4 : ∀ w ∈ u_ws RX4 TX4 12, w ∈ TT := TTin (by decide +kernel)
theorem iw_X5 : ∀ w ∈ u_ws RX5 TX5 7, w ∈ TT := TTin (by decide +kernel)
theorem iw_X6 : ∀ w ∈ u_ws RX6 TX6 7, w ∈ TT := TTin (by decide +kernel)
theorem iw_X7 : ∀ w ∈ u_ws RX7 TX7 2, w ∈ TT := TTin (by decide +kernel)
theorem iw_X8 : ∀ w ∈ u_ws RX8 TX8 3, w ∈ TT := TTin (by decide +kernel)
theorem iw_X9 : ∀ w ∈ u_ws RX9 TX9 4, w ∈ TT := TTin (by decide +kernel)
theorem iw_X10 : ∀ w ∈ u_ws RX10 TX10 67, w ∈ TT := TTin (by decide +kernel)
theorem fl_X0_12 : FlR RX0 12 0 0 := ⟨⟨_, _, _, rfl, by decide, iw_X0, (TTm (List.mem_append_right _ (t1m_1 (List.mem_of_getElem? (i := 232) rfl))) rfl)⟩, by decide, by decide +kernel, by decide +kernel⟩
theorem fl_X0_18 : FlR RX0 18 0 1 := ⟨⟨_, _, _, rfl, by decide, iw_X0, (TTm (List.mem_append_right _ (t1m_1 (List.mem_of_getElem? (i := 235) rfl))) rfl)⟩, by decide, by decide +kernel, by decide +kernel⟩
theorem fl_X0_22 : FlI RX0 22 0 8 := ⟨⟨_, _, _, rfl, by decide, iw_X0, (TTm (List.mem_append_right _ (t1m_2 (List.mem_of_getElem? (i := 13) rfl))) rfl)⟩, by decide, by decide +kernel, by decide +kernel⟩
theorem fl_X0_26 : FlI RX0 26 0 9 := ⟨⟨_, _, _, rfl, by decide, iw_X0, (TTm (List.mem_append_right _ (t1m_2 (List.mem_of_getElem? (i := 16) rfl))) rfl)⟩, by decide, by decide +kernel, by decide +kernel⟩
theorem fl_X0_29 : FlI RX0 29 0 10 := ⟨⟨_, _, _, rfl, by decide, iw_X0, (TTm (List.mem_append_right _ (t1m_2 (List.mem_of_getElem? (i := 19) rfl))) rfl)⟩, by decide, by decide +kernel, by decide +kernel⟩
theorem fl_X0_32 : FlI RX0 32 0 11 := ⟨⟨_, _, _, rfl, by decide, iw_X0, (TTm (List.mem_append_right _ (t1m_2 (List.mem_of_getElem? (i := 22) rfl))) rfl)⟩, by decide, by decide +kernel, by decide +kernel⟩
theorem fl_X0_35 : FlI RX0 35 0 2 := ⟨⟨_, _, _, rfl, by decide, iw_X0, (TTm (List.mem_append_right _ (t1m_1 (List.mem_of_getElem? (i := 238) rfl))) rfl)⟩, by decide, by decide +kernel, by decide +kernel⟩
theorem fl_X0_43 : FlI RX0 43 0 3 := ⟨⟨_, _, _, rfl, by decide, iw_X0, (TTm (List.mem_append_right _ (t1m_2 (List.mem_of_getElem? (i := 1) rfl))) rfl)⟩, by decide, by decide +kernel, by decide +kernel⟩
theorem fl_X0_46 : FlI RX0 46 0 4 := ⟨⟨_, _, _, rfl, by decide, iw_X0, (TTm (List.mem_append_right _ (t1m_2 (List.mem_of_getElem? (i := 4) rfl))) rfl)⟩, by decide, by decide +kernel, by decide +kernel⟩
theorem fl_X0_49 : FlI RX0 49 0 5 := ⟨⟨_, _, _, rfl, by decide, iw_X0, (TTm (List.mem_append_right _ (t1m_2 (List.mem_of_getElem? (i := 6) rfl))) rfl)⟩, by decide, by decide +kernel, by decide +kernel⟩
theorem fl_X0_64 : FlI RX0 64 0 6 := ⟨⟨_, _, _, rfl, by decide, iw_X0, (TTm (List.mem_append_right _ (t1m_2 (List.mem_of_getElem? (i := 8) rfl))) rfl)⟩, by decide, by decide +kernel, by decide +kernel⟩
theorem fl_X0_67 : FlI RX0 67 0 7 := ⟨⟨_, _, _, rfl, by decide, iw_X0, (TTm (List.mem_append_right _ (t1m_2 (List.mem_of_getElem? (i := 10) rfl))) rfl)⟩, by decide, by decide +kernel, by decide +kernel⟩
theorem fl_X0_70 : FlI RX0 70 1 2 := ⟨⟨_, _, _, rfl, by decide, iw_X1, (TTm (List.mem_append_right _ (t1m_1 (List.mem_of_getElem? (i := 61) rfl))) rfl)⟩, by decide, by decide +kernel, by decide +kernel⟩
theorem fl_X0_71 : FlI RX0 71 1 1 := ⟨⟨_, _, _, rfl, by decide, iw_X1, (TTm (List.mem_append_right _ (t1m_1 (List.mem_of_getElem? (i := 56) rfl))) rfl)⟩, by decide, by decide +kernel, by decide +kernel⟩
theorem fl_X0_84 : FlI RX0 84 2 0 := ⟨⟨_, _, _, rfl, by decide, iw_X2, (TTm (List.mem_append_right _ (t1m_1 (List.mem_of_getElem? (i := 118) rfl))) rfl)⟩, by decide, by decide +kernel, by decide +kernel⟩
theorem fl_X0_87 : FlI RX0 87 2 1 := ⟨⟨_, _, _, rfl, by decide, iw_X2, (TTm (List.mem_append_right _ (t1m_1 (List.mem_of_getElem? (i := 121) rfl))) rfl)⟩, by decide, by decide +kernel, by decide +kernel⟩
theorem fl_X0_88 : FlI RX0 88 2 2 := ⟨⟨_, _, _, rfl, by decide, iw_X2, (TTm (List.mem_append_right _ (t1m_1 (List.mem_of_getElem? (i := 124) rfl))) rfl)⟩, by decide, by decide +kernel, by decide +kernel⟩
theorem fl_X1_11 : FlR RX1 11 1 0 := ⟨⟨_, _, _, rfl, by decide, iw_X1, (TTm (List.mem_append_right _ (t1m_1 (List.mem_of_getElem? (i := 52) rfl))) rfl)⟩, by decide, by decide +kernel, by decide +kernel⟩
theorem fl_X1_15 : FlI RX1 15 1 1 := ⟨⟨_, _, _, rfl, by decide, iw_X1, (TTm (List.mem_append_right _ (t1m_1 (List.mem_of_getElem? (i := 53) rfl))) rfl)⟩, by decide, by decide +kernel, by decide +kernel⟩
theorem fl_X1_19 : FlI RX1 19 1 2 := ⟨⟨_, _, _, rfl, by decide, iw_X1, (TTm (List.mem_append_right _ (t1m_1 (List.mem_of_getElem? (i := 58) rfl))) rfl)⟩, by decide, by decide +kernel, by decide +kernel⟩
theorem fl_X10_7 : FlR RX10 7 10 0 := ⟨⟨_, _, _, rfl, by decide, iw_X10, (TTm (List.mem_append_right _ (t1m_4 (List.mem_of_getElem? (i := 55) rfl))) rfl)⟩, by decide, by decide +kernel, by decide +kernel⟩
theorem fl_X10_13 : FlR RX10 13 10 1 := ⟨⟨_, _, _, rfl, by decide, iw_X10, (TTm (List.mem_append_right _ (t1m_4 (List.mem_of_getElem? (i := 56) rfl))) rfl)⟩, by decide, by decide +kernel, by decide +kernel⟩
theorem fl_X10_16 : FlR RX10 16 10 2 := ⟨⟨_, _, _, rfl, by decide, iw_X10, (TTm (List.mem_append_right _ (t1m_4 (List.mem_of_getElem? (i := 57) rfl))) rfl)⟩, by decide, by decide +kernel, by decide +kernel⟩
theorem fl_X10_19 : FlR RX10 19 10 3 := ⟨⟨_, _, _, rfl, by decide, iw_X10, (TTm (List.mem_append_right _ (t1m_4 (List.mem_of_getElem? (i := 58) rfl))) rfl)⟩, by decide, by decide +kernel, by decide +kernel⟩
theorem fl_X10_22 : FlR RX10 22 10 4 := ⟨⟨_, _, _, rfl, by decide, iw_X10, (TTm (List.mem_append_right _ (t1m_4 (List.mem_of_getElem? (i := 59) rfl))) rfl)⟩, by decide, by decide +kernel, by decide +kernel⟩
theorem fl_X10_25 : FlR RX10 25 10 5 := ⟨⟨_, _, _, rfl, by decide, iw_X10, (TTm (List.mem_append_right _ (t1m_4 (List.mem_of_getElem? (i := 60) rfl))) rfl)⟩, by decide, by decide +kernel, by decide +kernel⟩
theorem fl_X10_28 : FlR RX10 28 10 6 := ⟨⟨_, _, _, rfl, by decide, iw_X10, (TTm (List.mem_append_right _ (t1m_4 (List.mem_of_getElem? (i := 61) rfl))) rfl)⟩, by decide, by decide +kernel, by decide +kernel⟩
theorem fl_X10_31 : FlR RX10 31 10 7 := ⟨⟨_, _, _, rfl, by decide, iw_X10, (TTm (List.mem_append_right _ (t1m_4 (List.mem_of_getElem? (i := 62) rfl))) rfl)⟩, by decide, by decide +kernel, by decide +kernel⟩
theorem fl_X10_34 : FlR RX10 34 10 8 := ⟨⟨_, _, _, rfl, by decide, iw_X10, (TTm (List.mem_append_right _ (t1m_4 (List.mem_of_getElem? (i := 63) rfl))) rfl)⟩, by decide, by decide +kernel, by decide +kernel⟩
theorem fl_X10_37 : FlR RX10 37 10 9 := ⟨⟨_, _, _, rfl, by decide, iw_X10, (TTm (List.mem_append_right _ (t1m_4 (List.mem_of_getElem? (i := 64) rfl))) rfl)⟩, by decide, by decide +kernel, by decide +kernel⟩
theorem fl_X10_40 : FlR RX10 40 10 10 := ⟨⟨_, _, _, rfl, by decide, iw_X10, (TTm (List.mem_append_right _ (t1m_4 (List.mem_of_getElem? (i := 65) rfl))) rfl)⟩, by decide, by decide +kernel, by decide +kernel⟩
theorem fl_X10_43 : FlR RX10 43 10 11 := ⟨⟨_, _, _, rfl, by decide, iw_X10, (TTm (List.mem_append_right _ (t1m_4 (List.mem_of_getElem? (i := 66) rfl))) rfl)⟩, by decide, by decide +kernel, by decide +kernel⟩
theorem fl_X10_46 : FlR RX10 46 10 12 := ⟨⟨_, _, _, rfl, by decide, iw_X10, (TTm (List.mem_append_right _ (t1m_4 (List.mem_of_getElem? (i := 67) rfl))) rfl)⟩, by decide, by decide +kernel, by decide +kernel⟩
theorem fl_X10_49 : FlR RX10 49 10 13 := ⟨⟨_, _, _, rfl, by decide, iw_X10, (TTm (List.mem_append_right _ (t1m_4 (List.mem_of_getElem? (i := 68) rfl))) rfl)⟩, by decide, by decide +kernel, by decide +kernel⟩
theorem fl_X10_52 : FlR RX10 52 10 14 := ⟨⟨_, _, _, rfl, by decide, iw_X10, (TTm (List.mem_append_right _ (t1m_4 (List.mem_of_getElem? (i := 69) rfl))) rfl)⟩, by decide, by decide +kernel, by decide +kernel⟩
theorem fl_X10_55 : FlR RX10 55 10 16 := ⟨⟨_, _, _, rfl, by decide, iw_X10, (TTm (List.mem_append_right _ (t1m_4 (List.mem_of_getElem? (i := 71) rfl))) rfl)⟩, by decide, by decide +kernel, by decide +kernel⟩
theorem fl_X10_58 : FlR RX10 58 10 17 := ⟨⟨_, _, _, rfl, by decide, iw_X10, (TTm (List.mem_append_right _ (t1m_4 (List.mem_of_getElem? (i := 72) rfl))) rfl)⟩, by decide, by decide +kernel, by decide +kernel⟩
theorem fl_X10_61 : FlR RX10 61 10 18 := ⟨⟨_, _, _, rfl, by decide, iw_X10, (TTm (List.mem_append_right _ (t1m_4 (List.mem_of_getElem? (i := 73) rfl))) rfl)⟩, by decide, by decide +kernel, by decide +kernel⟩
theorem fl_X10_64 : FlR RX10 64 10 19 := ⟨⟨_, _, _, rfl, by decide, iw_X10, (TTm (List.mem_append_right _ (t1m_4 (List.mem_of_getElem? (i := 74) rfl))) rfl)⟩, by decide, by decide +kernel, by decide +kernel⟩
theorem fl_X10_67 : FlR RX10 67 10 20 := ⟨⟨_, _, _, rfl, by decide, iw_X10, (TTm (List.mem_append_right _ (t1m_4 (List.mem_of_getElem? (i := 75) rfl))) rfl)⟩, by decide, by decide +kernel, by decide +kernel⟩
theorem fl_X10_70 : FlR RX10 70 10 21 := ⟨⟨_, _, _, rfl, by decide, iw_X10, (TTm (List.mem_append_right _ (t1m_4 (List.mem_of_getElem? (i := 76) rfl))) rfl)⟩, by decide, by decide +kernel, by decide +kernel⟩
theorem fl_X10_73 : FlR RX10 73 10 22 := ⟨⟨_, _, _, rfl, by decide, iw_X10, (TTm (List.mem_append_right _ (t1m_4 (List.mem_of_getElem? (i := 77) rfl))) rfl)⟩, by decide, by decide +kernel, by decide +kernel⟩
theorem fl_X10_76 : FlR RX10 76 10 23 := ⟨⟨_, _, _, rfl, by decide, iw_X10, (TTm (List.mem_append_right _ (t1m_4 (List.mem_of_getElem? (i := 78) rfl))) rfl)⟩, by decide, by decide +kernel, by decide +kernel⟩
theorem fl_X10_79 : FlR RX10 79 10 24 := ⟨⟨_, _, _, rfl, by decide, iw_X10, (TTm (List.mem_append_right _ (t1m_4 (List.mem_of_getElem? (i := 79) rfl))) rfl)⟩, by decide, by decide +kernel, by decide +kernel⟩
theorem fl_X10_82 : FlI RX10 82 10 31 := ⟨⟨_, _, _, rfl, by decide, iw_X10, (TTm (List.mem_append_right _ (t1m_4 (List.mem_of_getElem? (i := 86) rfl))) rfl)⟩, by decide, by decide +kernel, by decide +kernel⟩
theorem fl_X10_86 : FlR RX10 86 10 34 := ⟨⟨_, _, _, rfl, by decide, iw_X10, (TTm (List.mem_append_right _ (t1m_4 (List.mem_of_getElem? (i := 89) rfl))) rfl)⟩, by decide, by decide +kernel, by decide +kernel⟩
theorem fl_X10_89 : FlR RX10 89 10 35 := ⟨⟨_, _, _, rfl, by decide, iw_X10, (TTm (List.mem_append_right _ (t1m_4 (List.mem_of_getElem? (i := 90) rfl))) rfl)⟩, by decide, by decide +kernel, by decide +kernel⟩
theorem fl_X10_92 : FlR RX10 92 10 36 := ⟨⟨_, _, _, rfl, by decide, iw_X10, (TTm (List.mem_append_right _ (t1m_4 (List.mem_of_getElem? (i := 91) rfl))) rfl)⟩, by decide, by decide +kernel, by decide +kernel⟩
theorem fl_X10_95 : FlR RX10 95 10 37 := ⟨⟨_, _, _, rfl, by decide, iw_X10, (TTm (List.mem_append_right _ (t1m_4 (List.mem_of_getElem? (i := 92) rfl))) rfl)⟩, by decide, by decide +kernel, by decide +kernel⟩
theorem fl_X10_98 : FlR RX10 98 10 38 := ⟨⟨_, _, _, rfl, by decide, iw_X10, (TTm (List.mem_append_right _ (t1m_4 (List.mem_of_getElem? (i := 93) rfl))) rfl)⟩, by decide, by decide +kernel, by decide +kernel⟩
theorem fl_X10_101 : FlR RX10 101 10 39 := ⟨⟨_, _, _, rfl, by decide, iw_X10, (TTm (List.mem_append_right _ (t1m_4 (List.mem_of_getElem? (i := 94) rfl))) rfl)⟩, by decide, by decide +kernel, by decide +kernel⟩
theorem fl_X10_104 : FlR RX10 104 10 40 := ⟨⟨_, _, _, rfl, by decide, iw_X10, (TTm (List.mem_append_right _ (t1m_4 (List.mem_of_getElem? (i := 95) rfl))) rfl)⟩, by decide, by decide +kernel, by decide +kernel⟩
theorem fl_X10_107 : FlR RX10 107 10 41 := ⟨⟨_, _, _, rfl, by decide, iw_X10, (TTm (List.mem_append_right _ (t1m_4 (List.mem_of_getElem? (i := 96) rfl))) rfl)⟩, by decide, by decide +kernel, by decide +kernel⟩
theorem fl_X10_110 : FlR RX10 110 10 42 := ⟨⟨_, _, _, rfl, by decide, iw_X10, (TTm (List.mem_append_right _ (t1m_4 (List.mem_of_getElem? (i := 97) rfl))) rfl)⟩, by decide, by decide +kernel, by decide +kernel⟩
theorem fl_X10_113 : FlR RX10 113 10 43 := ⟨⟨_, _, _, rfl, by decide, iw_X10, (TTm (List.mem_append_right _ (t1m_4 (List.mem_of_getElem? (i := 98) rfl))) rfl)⟩, by decide, by decide +kernel, by decide +kernel⟩
theorem fl_X10_116 : FlR RX10 116 10 46 := ⟨⟨_, _, _, rfl, by decide, iw_X10, (TTm (List.mem_append_right _ (t1m_4 (List.mem_of_getElem? (i := 101) rfl))) rfl)⟩, by decide, by decide +kernel, by decide +kernel⟩
theorem fl_X10_119 : FlR RX10 119 10 47 := ⟨⟨_, _, _, rfl, by decide, iw_X10, (TTm (List.mem_append_right _ (t1m_4 (List.mem_of_getElem? (i := 102) rfl))) rfl)⟩, by decide, by decide +kernel, by decide +kernel⟩
theorem fl_X10_122 : FlR RX10 122 10 48 := ⟨⟨_, _, _, rfl, by decide, iw_X10, (TTm (List.mem_append_right _ (t1m_4 (List.mem_of_getElem? (i := 103) rfl))) rfl)⟩, by decide, by decide +kernel, by decide +kernel⟩
theorem fl_X10_125 : FlR RX10 125 10 49 := ⟨⟨_, _, _, rfl, by decide, iw_X10, (TTm (List.mem_append_right _ (t1m_4 (List.mem_of_getElem? (i := 104) rfl))) rfl)⟩, by decide, by decide +kernel, by decide +kernel⟩
theorem fl_X10_128 : FlR RX10 128 10 50 := ⟨⟨_, _, _, rfl, by decide, iw_X10, (TTm (List.mem_append_right _ (t1m_4 (List.mem_of_getElem? (i := 105) rfl))) rfl)⟩, by decide, by decide +kernel, by decide +kernel⟩
theorem fl_X10_131 : FlR RX10 131 10 51 := ⟨⟨_, _, _, rfl, by decide, iw_X10, (TTm (List.mem_append_right _ (t1m_4 (List.mem_of_getElem? (i := 106) rfl))) rfl)⟩, by decide, by decide +kernel, by decide +kernel⟩
theorem fl_X10_134 : FlR RX10 134 10 52 := ⟨⟨_, _, _, rfl, by decide, iw_X10, (TTm (List.mem_append_right _ (t1m_4 (List.mem_of_getElem? (i := 107) rfl))) rfl)⟩, by decide, by decide +kernel, by decide +kernel⟩
theorem fl_X10_137 : FlR RX10 137 10 53 := ⟨⟨_, _, _, rfl, by decide, iw_X10, (TTm (List.mem_append_right _ (t1m_4 (List.mem_of_getElem? (i := 108) rfl))) rfl)⟩, by decide, by decide +kernel, by decide +kernel⟩
theorem fl_X10_140 : FlR RX10 140 10 54 := ⟨⟨_, _, _, rfl, by decide, iw_X10, (TTm (List.mem_append_right _ (t1m_4 (List.mem_of_getElem? (i := 109) rfl))) rfl)⟩, by decide, by decide +kernel, by decide +kernel⟩
theorem fl_X10_143 : FlR RX10 143 10 55 := ⟨⟨_, _, _, rfl, by decide, iw_X10, (TTm (List.mem_append_right _ (t1m_4 (List.mem_of_getElem? (i := 110) rfl))) rfl)⟩, by decide, by decide +kernel, by decide +kernel⟩
theorem fl_X10_146 : FlR RX10 146 10 56 := ⟨⟨_, _, _, rfl, by decide, iw_X10, (TTm (List.mem_append_right _ (t1m_4 (List.mem_of_getElem? (i := 111) rfl))) rfl)⟩, by decide, by decide +kernel, by decide +kernel⟩
theorem fl_X10_149 : FlR RX10 149 10 57 := ⟨⟨_, _, _, rfl, by decide, iw_X10, (TTm (List.mem_append_right _ (t1m_4 (List.mem_of_getElem? (i := 112) rfl))) rfl)⟩, by decide, by decide +kernel, by decide +kernel⟩
theorem fl_X10_152 : FlR RX10 152 10 58 := ⟨⟨_, _, _, rfl, by decide, iw_X10, (TTm (List.mem_append_right _ (t1m_4 (List.mem_of_getElem? (i := 113) rfl))) rfl)⟩, by decide, by decide +kernel, by decide +kernel⟩
theorem fl_X10_155 : FlR RX10 155 10 59 := ⟨⟨_, _, _, rfl, by decide, iw_X10, (TTm (List.mem_append_right _ (t1m_4 (List.mem_of_getElem? (i := 114) rfl))) rfl)⟩, by decide, by decide +kernel, by decide +kernel⟩
theorem fl_X10_158 : FlR RX10 158 10 63 := ⟨⟨_, _, _, rfl, by decide, iw_X10, (TTm (List.mem_append_right _ (t1m_4 (List.mem_of_getElem? (i := 118) rfl))) rfl)⟩, by decide, by decide +kernel, by decide +kernel⟩
theorem fl_X10_161 : FlR RX10 161 10 64 := ⟨⟨_, _, _, rfl, by decide, iw_X10, (TTm (List.mem_append_right _ (t1m_4 (List.mem_of_getElem? (i := 119) rfl))) rfl)⟩, by decide, by decide +kernel, by decide +kernel⟩
theorem fl_X10_164 : FlR RX10 164 10 65 := ⟨⟨_, _, _, rfl, by decide, iw_X10, (TTm (List.mem_append_right _ (t1m_4 (List.mem_of_getElem? (i := 120) rfl))) rfl)⟩, by decide, by decide +kernel, by decide +kernel⟩
theorem fl_X10_171 : FlI RX10 171 10 15 := ⟨⟨_, _, _, rfl, by decide, iw_X10, (TTm (List.mem_append_right _ (t1m_4 (List.mem_of_getElem? (i := 70) rfl))) rfl)⟩, by decide, by decide +kernel, by decide +kernel⟩
theorem fl_X10_209 : FlI RX10 209 10 25 := ⟨⟨_, _, _, rfl, by decide, iw_X10, (TTm (List.mem_append_right _ (t1m_4 (List.mem_of_getElem? (i := 80) rfl))) rfl)⟩, by decide, by decide +kernel, by decide +kernel⟩
theorem fl_X10_212 : FlI RX10 212 10 28 := ⟨⟨_, _, _, rfl, by decide, iw_X10, (TTm (List.mem_append_right _ (t1m_4 (List.mem_of_getElem? (i := 83) rfl))) rfl)⟩, by decide, by decide +kernel, by decide +kernel⟩
theorem fl_X10_215 : FlI RX10 215 10 29 := ⟨⟨_, _, _, rfl, by decide, iw_X10, (TTm (List.mem_append_right _ (t1m_4 (List.mem_of_getElem? (i := 84) rfl))) rfl)⟩, by decide, by decide +kernel, by decide +kernel⟩
theorem fl_X10_218 : FlI RX10 218 10 26 := ⟨⟨_, _, _, rfl, by decide, iw_X10, (TTm (List.mem_append_right _ (t1m_4 (List.mem_of_getElem? (i := 81) rfl))) rfl)⟩, by decide, by decide +kernel, by decide +kernel⟩
theorem fl_X10_221 : FlI RX10 221 10 27 := ⟨⟨_, _, _, rfl, by decide, iw_X10, (TTm (List.mem_append_right _ (t1m_4 (List.mem_of_getElem? (i := 82) rfl))) rfl)⟩, by decide, by decide +kernel, by decide +kernel⟩
theorem fl_X10_224 : FlI RX10 224 10 44 := ⟨⟨_, _, _, rfl, by decide, iw_X10, (TTm (List.mem_append_right _ (t1m_4 (List.mem_of_getElem? (i := 99) rfl))) rfl)⟩, by decide, by decide +kernel, by decide +kernel⟩
theorem fl_X10_227 : FlI RX10 227 10 45 := ⟨⟨_, _, _, rfl, by decide, iw_X10, (TTm (List.mem_append_right _ (t1m_4 (List.mem_of_getElem? (i := 100) rfl))) rfl)⟩, by decide, by decide +kernel, by decide +kernel⟩
theorem fl_X10_233 : FlI RX10 233 10 33 := ⟨⟨_, _, _, rfl, by decide, iw_X10, (TTm (List.mem_append_right _ (t1m_4 (List.mem_of_getElem? (i := 88) rfl))) rfl)⟩, by decide, by decide +kernel, by decide +kernel⟩
theorem fl_X10_236 : FlI RX10 236 10 32 := ⟨⟨_, _, _, rfl, by decide, iw_X10, (TTm (List.mem_append_right _ (t1m_4 (List.mem_of_getElem? (i := 87) rfl))) rfl)⟩, by decide, by decide +kernel, by decide +kernel⟩
theorem fl_X10_273 : FlI RX10 273 10 30 := ⟨⟨_, _, _, rfl, by decide, iw_X10, (TTm (List.mem_append_right _ (t1m_4 (List.mem_of_getElem? (i := 85) rfl))) rfl)⟩, by decide, by decide +kernel, by decide +kernel⟩
theorem fl_X10_315 : FlI RX10 315 10 60 := ⟨⟨_, _, _, rfl, by decide, iw_X10, (TTm (List.mem_append_right _ (t1m_4 (List.mem_of_getElem? (i := 115) rfl))) rfl)⟩, by decide, by decide +kernel, by decide +kernel⟩
theorem fl_X10_318 : FlI RX10 318 10 61 := ⟨⟨_, _, _, rfl, by decide, iw_X10, (TTm (List.mem_append_right _ (t1m_4 (List.mem_of_getElem? (i := 116) rfl))) rfl)⟩, by decide, by decide +kernel, by decide +kernel⟩
theorem fl_X10_321 : FlI RX10 321 10 62 := ⟨⟨_, _, _, rfl, by decide, iw_X10, (TTm (List.mem_append_right _ (t1m_4 (List.mem_of_getElem? (i := 117) rfl))) rfl)⟩, by decide, by decide +kernel, by decide +kernel⟩
theorem fl_X10_336 : FlI RX10 336 10 66 := ⟨⟨_, _, _, rfl, by decide, iw_X10, (TTm (List.mem_append_right _ (t1m_4 (List.mem_of_getElem? (i := 121) rfl))) rfl)⟩, by decide, by decide +kernel, by decide +kernel⟩
theorem fl_X2_9 : FlR RX2 9 2 3 := ⟨⟨_, _, _, rfl, by decide, iw_X2, (TTm (List.mem_append_right _ (t1m_1 (List.mem_of_getElem? (i := 127) rfl))) rfl)⟩, by decide, by decide +kernel, by decide +kernel⟩
theorem fl_X2_21 : FlR RX2 21 0 0 := ⟨⟨_, _, _, rfl, by decide, iw_X0, (TTm (List.mem_append_right _ (t1m_1 (List.mem_of_getElem? (i := 233) rfl))) rfl)⟩, by decide, by decide +kernel, by decide +kernel⟩
theorem fl_X2_27 : FlI RX2 27 1 2 := ⟨⟨_, _, _, rfl, by decide, iw_X1, (TTm (List.mem_append_right _ (t1m_1 (List.mem_of_getElem? (i := 59) rfl))) rfl)⟩, by decide, by decide +kernel, by decide +kernel⟩
theorem fl_X2_33 : FlI RX2 33 1 1 := ⟨⟨_, _, _, rfl, by decide, iw_X1, (TTm (List.mem_append_right _ (t1m_1 (List.mem_of_getElem? (i := 54) rfl))) rfl)⟩, by decide, by decide +kernel, by decide +kernel⟩
theorem fl_X2_40 : FlI RX2 40 0 4 := ⟨⟨_, _, _, rfl, by decide, iw_X0, (TTm (List.mem_append_right _ (t1m_2 (List.mem_of_getElem? (i := 5) rfl))) rfl)⟩, by decide, by decide +kernel, by decide +kernel⟩
theorem fl_X2_55 : FlI RX2 55 0 3 := ⟨⟨_, _, _, rfl, by decide, iw_X0, (TTm (List.mem_append_right _ (t1m_2 (List.mem_of_getElem? (i := 2) rfl))) rfl)⟩, by decide, by decide +kernel, by decide +kernel⟩
theorem fl_X2_67 : FlI RX2 67 0 7 := ⟨⟨_, _, _, rfl, by decide, iw_X0, (TTm (List.mem_append_right _ (t1m_2 (List.mem_of_getElem? (i := 11) rfl))) rfl)⟩, by decide, by decide +kernel, by decide +kernel⟩
theorem fl_X2_70 : FlI RX2 70 0 6 := ⟨⟨_, _, _, rfl, by decide, iw_X0, (TTm (List.mem_append_right _ (t1m_2 (List.mem_of_getElem? (i := 9) rfl))) rfl)⟩, by decide, by decide +kernel, by decide +kernel⟩
theorem fl_X2_73 : FlI RX2 73 4 4 := ⟨⟨_, _, _, rfl, by decide, iw_X4, (TTm (List.mem_append_right _ (t1m_1 (List.mem_of_getElem? (i := 190) rfl))) rfl)⟩, by decide, by decide +kernel, by decide +kernel⟩
theorem fl_X2_82 : FlI RX2 82 0 5 := ⟨⟨_, _, _, rfl, by decide, iw_X0, (TTm (List.mem_append_right _ (t1m_2 (List.mem_of_getElem? (i := 7) rfl))) rfl)⟩, by decide, by decide +kernel, by decide +kernel⟩
theorem fl_X2_85 : FlI RX2 85 4 1 := ⟨⟨_, _, _, rfl, by decide, iw_X4, (TTm (List.mem_append_right _ (t1m_1 (List.mem_of_getElem? (i := 182) rfl))) rfl)⟩, by decide, by decide +kernel, by decide +kernel⟩
theorem fl_X2_95 : FlI RX2 95 4 2 := ⟨⟨_, _, _, rfl, by decide, iw_X4, (TTm (List.mem_append_right _ (t1m_1 (List.mem_of_getElem? (i := 185) rfl))) rfl)⟩, by decide, by decide +kernel, by decide +kernel⟩
theorem fl_X2_98 : FlR RX2 98 0 1 := ⟨⟨_, _, _, rfl, by decide, iw_X0, (TTm (List.mem_append_right _ (t1m_1 (List.mem_of_getElem? (i := 236) rfl))) rfl)⟩, by decide, by decide +kernel, by decide +kernel⟩
theorem fl_X2_115 : FlI RX2 115 2 0 := ⟨⟨_, _, _, rfl, by decide, iw_X2, (TTm (List.mem_append_right _ (t1m_1 (List.mem_of_getElem? (i := 119) rfl))) rfl)⟩, by decide, by decide +kernel, by decide +kernel⟩
theorem fl_X2_118 : FlI RX2 118 2 1 := ⟨⟨_, _, _, rfl, by decide, iw_X2, (TTm (List.mem_append_right _ (t1m_1 (List.mem_of_getElem? (i := 122) rfl))) rfl)⟩, by decide, by decide +kernel, by decide +kernel⟩
theorem fl_X2_121 : FlI RX2 121 2 2 := ⟨⟨_, _, _, rfl, by decide, iw_X2, (TTm (List.mem_append_right _ (t1m_1 (List.mem_of_getElem? (i := 125) rfl))) rfl)⟩, by decide, by decide +kernel, by decide +kernel⟩
theorem fl_X3_7 : FlI RX3 7 3 0 := ⟨⟨_, _, _, rfl, by decide, iw_X3, (TTm (List.mem_append_right _ (t1m_1 (List.mem_of_getElem? (i := 149) rfl))) rfl)⟩, by decide, by decide +kernel, by decide +kernel⟩
theorem fl_X3_13 : FlI RX3 13 3 2 := ⟨⟨_, _, _, rfl, by decide, iw_X3, (TTm (List.mem_append_right _ (t1m_1 (List.mem_of_getElem? (i := 153) rfl))) rfl)⟩, by decide, by decide +kernel, by decide +kernel⟩
theorem fl_X3_16 : FlI RX3 16 3 3 := ⟨⟨_, _, _, rfl, by decide, iw_X3, (TTm (List.mem_append_right _ (t1m_1 (List.mem_of_getElem? (i := 154) rfl))) rfl)⟩, by decide, by decide +kernel, by decide +kernel⟩
theorem fl_X3_19 : FlI RX3 19 3 4 := ⟨⟨_, _, _, rfl, by decide, iw_X3, (TTm (List.mem_append_right _ (t1m_1 (List.mem_of_getElem? (i := 155) rfl))) rfl)⟩, by decide, by decide +kernel, by decide +kernel⟩
theorem fl_X3_22 : FlI RX3 22 3 5 := ⟨⟨_, _, _, rfl, by decide, iw_X3, (TTm (List.mem_append_right _ (t1m_1 (List.mem_of_getElem? (i := 157) rfl))) rfl)⟩, by decide, by decide +kernel, by decide +kernel⟩
theorem fl_X3_29 : FlI RX3 29 3 1 := ⟨⟨_, _, _, rfl, by decide, iw_X3, (TTm (List.mem_append_right _ (t1m_1 (List.mem_of_getElem? (i := 151) rfl))) rfl)⟩, by decide, by decide +kernel, by decide +kernel⟩
theorem fl_X3_32 : FlI RX3 32 3 6 := ⟨⟨_, _, _, rfl, by decide, iw_X3, (TTm (List.mem_append_right _ (t1m_1 (List.mem_of_getElem? (i := 159) rfl))) rfl)⟩, by decide, by decide +kernel, by decide +kernel⟩
theorem fl_X3_35 : FlI RX3 35 3 7 := ⟨⟨_, _, _, rfl, by decide, iw_X3, (TTm (List.mem_append_right _ (t1m_1 (List.mem_of_getElem? (i := 160) rfl))) rfl)⟩, by decide, by decide +kernel, by decide +kernel⟩
theorem fl_X4_9 : FlR RX4 9 4 5 := ⟨⟨_, _, _, rfl, by decide, iw_X4, (TTm (List.mem_append_right _ (t1m_1 (List.mem_of_getElem? (i := 192) rfl))) rfl)⟩, by decide, by decide +kernel, by decide +kernel⟩
theorem fl_X4_17 : FlR RX4 17 4 9 := ⟨⟨_, _, _, rfl, by decide, iw_X4, (TTm (List.mem_append_right _ (t1m_1 (List.mem_of_getElem? (i := 197) rfl))) rfl)⟩, by decide, by decide +kernel, by decide +kernel⟩
theorem fl_X4_21 : FlR RX4 21 4 10 := ⟨⟨_, _, _, rfl, by decide, iw_X4, (TTm (List.mem_append_right _ (t1m_1 (List.mem_of_getElem? (i := 198) rfl))) rfl)⟩, by decide, by decide +kernel, by decide +kernel⟩
theorem fl_X4_25 : FlR RX4 25 4 11 := ⟨⟨_, _, _, rfl, by decide, iw_X4, (TTm (List.mem_append_right _ (t1m_1 (List.mem_of_getElem? (i := 199) rfl))) rfl)⟩, by decide, by decide +kernel, by decide +kernel⟩
theorem fl_X4_29 : FlI RX4 29 4 0 := ⟨⟨_, _, _, rfl, by decide, iw_X4, (TTm (List.mem_append_right _ (t1m_1 (List.mem_of_getElem? (i := 179) rfl))) rfl)⟩, by decide, by decide +kernel, by decide +kernel⟩
theorem fl_X4_33 : FlI RX4 33 4 1 := ⟨⟨_, _, _, rfl, by decide, iw_X4, (TTm (List.mem_append_right _ (t1m_1 (List.mem_of_getElem? (i := 181) rfl))) rfl)⟩, by decide, by decide +kernel, by decide +kernel⟩
theorem fl_X4_37 : FlI RX4 37 4 2 := ⟨⟨_, _, _, rfl, by decide, iw_X4, (TTm (List.mem_append_right _ (t1m_1 (List.mem_of_getElem? (i := 184) rfl))) rfl)⟩, by decide, by decide +kernel, by decide +kernel⟩
theorem fl_X4_40 : FlI RX4 40 4 6 := ⟨⟨_, _, _, rfl, by decide, iw_X4, (TTm (List.mem_append_right _ (t1m_1 (List.mem_of_getElem? (i := 194) rfl))) rfl)⟩, by decide, by decide +kernel, by decide +kernel⟩
theorem fl_X4_43 : FlI RX4 43 4 7 := ⟨⟨_, _, _, rfl, by decide, iw_X4, (TTm (List.mem_append_right _ (t1m_1 (List.mem_of_getElem? (i := 195) rfl))) rfl)⟩, by decide, by decide +kernel, by decide +kernel⟩
theorem fl_X4_46 : FlI RX4 46 4 3 := ⟨⟨_, _, _, rfl, by decide, iw_X4, (TTm (List.mem_append_right _ (t1m_1 (List.mem_of_getElem? (i := 187) rfl))) rfl)⟩, by decide, by decide +kernel, by decide +kernel⟩
theorem fl_X4_49 : FlI RX4 49 4 4 := ⟨⟨_, _, _, rfl, by decide, iw_X4, (TTm (List.mem_append_right _ (t1m_1 (List.mem_of_getElem? (i := 189) rfl))) rfl)⟩, by decide, by decide +kernel, by decide +kernel⟩
theorem fl_X4_52 : FlI RX4 52 4 8 := ⟨⟨_, _, _, rfl, by decide, iw_X4, (TTm (List.mem_append_right _ (t1m_1 (List.mem_of_getElem? (i := 196) rfl))) rfl)⟩, by decide, by decide +kernel, by decide +kernel⟩
theorem fl_X4_82 : FlI RX4 82 3 0 := ⟨⟨_, _, _, rfl, by decide, iw_X3, (TTm (List.mem_append_right _ (t1m_1 (List.mem_of_getElem? (i := 150) rfl))) rfl)⟩, by decide, by decide +kernel, by decide +kernel⟩
theorem fl_X4_89 : FlI RX4 89 3 1 := ⟨⟨_, _, _, rfl, by decide, iw_X3, (TTm (List.mem_append_right _ (t1m_1 (List.mem_of_getElem? (i := 152) rfl))) rfl)⟩, by decide, by decide +kernel, by decide +kernel⟩
theorem fl_X4_95 : FlI RX4 95 3 4 := ⟨⟨_, _, _, rfl, by decide, iw_X3, (TTm (List.mem_append_right _ (t1m_1 (List.mem_of_getElem? (i := 156) rfl))) rfl)⟩, by decide, by decide +kernel, by decide +kernel⟩
theorem fl_X4_102 : FlI RX4 102 3 5 := ⟨⟨_, _, _, rfl, by decide, iw_X3, (TTm (List.mem_append_right _ (t1m_1 (List.mem_of_getElem? (i := 158) rfl))) rfl)⟩, by decide, by decide +kernel, by decide +kernel⟩
theorem fl_X4_117 : FlI RX4 117 0 9 := ⟨⟨_, _, _, rfl, by decide, iw_X0, (TTm (List.mem_append_right _ (t1m_2 (List.mem_of_getElem? (i := 18) rfl))) rfl)⟩, by decide, by decide +kernel, by decide +kernel⟩
theorem fl_X4_122 : FlR RX4 122 0 1 := ⟨⟨_, _, _, rfl, by decide, iw_X0, (TTm (List.mem_append_right _ (t1m_1 (List.mem_of_getElem? (i := 237) rfl))) rfl)⟩, by decide, by decide +kernel, by decide +kernel⟩
theorem fl_X4_129 : FlI RX4 129 0 10 := ⟨⟨_, _, _, rfl, by decide, iw_X0, (TTm (List.mem_append_right _ (t1m_2 (List.mem_of_getElem? (i := 21) rfl))) rfl)⟩, by decide, by decide +kernel, by decide +kernel⟩
theorem fl_X4_135 : FlI RX4 135 0 11 := ⟨⟨_, _, _, rfl, by decide, iw_X0, (TTm (List.mem_append_right _ (t1m_2 (List.mem_of_getElem? (i := 24) rfl))) rfl)⟩, by decide, by decide +kernel, by decide +kernel⟩
theorem fl_X4_138 : FlI RX4 138 0 3 := ⟨⟨_, _, _, rfl, by decide, iw_X0, (TTm (List.mem_append_right _ (t1m_2 (List.mem_of_getElem? (i := 3) rfl))) rfl)⟩, by decide, by decide +kernel, by decide +kernel⟩
theorem fl_X5_12 : FlR RX5 12 5 0 := ⟨⟨_, _, _, rfl, by decide, iw_X5, (TTm (List.mem_append_right _ (t1m_2 (List.mem_of_getElem? (i := 67) rfl))) rfl)⟩, by decide, by decide +kernel, by decide +kernel⟩
theorem fl_X5_18 : FlR RX5 18 5 1 := ⟨⟨_, _, _, rfl, by decide, iw_X5, (TTm (List.mem_append_right _ (t1m_2 (List.mem_of_getElem? (i := 69) rfl))) rfl)⟩, by decide, by decide +kernel, by decide +kernel⟩
theorem fl_X5_22 : FlR RX5 22 5 2 := ⟨⟨_, _, _, rfl, by decide, iw_X5, (TTm (List.mem_append_right _ (t1m_2 (List.mem_of_getElem? (i := 71) rfl))) rfl)⟩, by decide, by decide +kernel, by decide +kernel⟩
theorem fl_X5_25 : FlR RX5 25 5 3 := ⟨⟨_, _, _, rfl, by decide, iw_X5, (TTm (List.mem_append_right _ (t1m_2 (List.mem_of_getElem? (i := 72) rfl))) rfl)⟩, by decide, by decide +kernel, by decide +kernel⟩
theorem fl_X5_28 : FlR RX5 28 5 4 := ⟨⟨_, _, _, rfl, by decide, iw_X5, (TTm (List.mem_append_right _ (t1m_2 (List.mem_of_getElem? (i := 73) rfl))) rfl)⟩, by decide, by decide +kernel, by decide +kernel⟩
theorem fl_X5_41 : FlI RX5 41 5 6 := ⟨⟨_, _, _, rfl, by decide, iw_X5, (TTm (List.mem_append_right _ (t1m_2 (List.mem_of_getElem? (i := 75) rfl))) rfl)⟩, by decide, by decide +kernel, by decide +kernel⟩
theorem fl_X5_49 : FlI RX5 49 5 5 := ⟨⟨_, _, _, rfl, by decide, iw_X5, (TTm (List.mem_append_right _ (t1m_2 (List.mem_of_getElem? (i := 74) rfl))) rfl)⟩, by decide, by decide +kernel, by decide +kernel⟩
theorem fl_X5_52 : FlR RX5 52 8 1 := ⟨⟨_, _, _, rfl, by decide, iw_X8, (TTm (List.mem_append_right _ (t1m_2 (List.mem_of_getElem? (i := 53) rfl))) rfl)⟩, by decide, by decide +kernel, by decide +kernel⟩
theorem fl_X5_56 : FlI RX5 56 0 2 := ⟨⟨_, _, _, rfl, by decide, iw_X0, (TTm (List.mem_append_right _ (t1m_2 (List.mem_of_getElem? (i := 0) rfl))) rfl)⟩, by decide, by decide +kernel, by decide +kernel⟩
theorem fl_X6_12 : FlR RX6 12 6 0 := ⟨⟨_, _, _, rfl, by decide, iw_X6, (TTm (List.mem_append_right _ (t1m_1 (List.mem_of_getElem? (i := 70) rfl))) rfl)⟩, by decide, by decide +kernel, by decide +kernel⟩
theorem fl_X6_21 : FlR RX6 21 6 1 := ⟨⟨_, _, _, rfl, by decide, iw_X6, (TTm (List.mem_append_right _ (t1m_1 (List.mem_of_getElem? (i := 72) rfl))) rfl)⟩, by decide, by decide +kernel, by decide +kernel⟩
theorem fl_X6_25 : FlI RX6 25 6 3 := ⟨⟨_, _, _, rfl, by decide, iw_X6, (TTm (List.mem_append_right _ (t1m_1 (List.mem_of_getElem? (i := 76) rfl))) rfl)⟩, by decide, by decide +kernel, by decide +kernel⟩
theorem fl_X6_29 : FlI RX6 29 6 4 := ⟨⟨_, _, _, rfl, by decide, iw_X6, (TTm (List.mem_append_right _ (t1m_1 (List.mem_of_getElem? (i := 78) rfl))) rfl)⟩, by decide, by decide +kernel, by decide +kernel⟩
theorem fl_X6_32 : FlI RX6 32 6 2 := ⟨⟨_, _, _, rfl, by decide, iw_X6, (TTm (List.mem_append_right _ (t1m_1 (List.mem_of_getElem? (i := 74) rfl))) rfl)⟩, by decide, by decide +kernel, by decide +kernel⟩
theorem fl_X6_47 : FlI RX6 47 6 5 := ⟨⟨_, _, _, rfl, by decide, iw_X6, (TTm (List.mem_append_right _ (t1m_1 (List.mem_of_getElem? (i := 79) rfl))) rfl)⟩, by decide, by decide +kernel, by decide +kernel⟩
theorem fl_X6_50 : FlI RX6 50 1 1 := ⟨⟨_, _, _, rfl, by decide, iw_X1, (TTm (List.mem_append_right _ (t1m_1 (List.mem_of_getElem? (i := 55) rfl))) rfl)⟩, by decide, by decide +kernel, by decide +kernel⟩
theorem fl_X6_51 : FlI RX6 51 6 6 := ⟨⟨_, _, _, rfl, by decide, iw_X6, (TTm (List.mem_append_right _ (t1m_1 (List.mem_of_getElem? (i := 80) rfl))) rfl)⟩, by decide, by decide +kernel, by decide +kernel⟩
theorem fl_X6_54 : FlI RX6 54 1 2 := ⟨⟨_, _, _, rfl, by decide, iw_X1, (TTm (List.mem_append_right _ (t1m_1 (List.mem_of_getElem? (i := 60) rfl))) rfl)⟩, by decide, by decide +kernel, by decide +kernel⟩
theorem fl_X6_93 : FlI RX6 93 7 1 := ⟨⟨_, _, _, rfl, by decide, iw_X7, (TTm (List.mem_append_right _ (t1m_1 (List.mem_of_getElem? (i := 39) rfl))) rfl)⟩, by decide, by decide +kernel, by decide +kernel⟩
theorem fl_X7_11 : FlR RX7 11 7 0 := ⟨⟨_, _, _, rfl, by decide, iw_X7, (TTm (List.mem_append_right _ (t1m_1 (List.mem_of_getElem? (i := 36) rfl))) rfl)⟩, by decide, by decide +kernel, by decide +kernel⟩
theorem fl_X7_15 : FlI RX7 15 7 1 := ⟨⟨_, _, _, rfl, by decide, iw_X7, (TTm (List.mem_append_right _ (t1m_1 (List.mem_of_getElem? (i := 37) rfl))) rfl)⟩, by decide, by decide +kernel, by decide +kernel⟩
theorem fl_X8_11 : FlR RX8 11 8 0 := ⟨⟨_, _, _, rfl, by decide, iw_X8, (TTm (List.mem_append_right _ (t1m_2 (List.mem_of_getElem? (i := 50) rfl))) rfl)⟩, by decide, by decide +kernel, by decide +kernel⟩
theorem fl_X8_19 : FlR RX8 19 8 1 := ⟨⟨_, _, _, rfl, by decide, iw_X8, (TTm (List.mem_append_right _ (t1m_2 (List.mem_of_getElem? (i := 52) rfl))) rfl)⟩, by decide, by decide +kernel, by decide +kernel⟩
theorem fl_X8_26 : FlR RX8 26 8 2 := ⟨⟨_, _, _, rfl, by decide, iw_X8, (TTm (List.mem_append_right _ (t1m_2 (List.mem_of_getElem? (i := 55) rfl))) rfl)⟩, by decide, by decide +kernel, by decide +kernel⟩
theorem fl_X8_36 : FlI RX8 36 4 0 := ⟨⟨_, _, _, rfl, by decide, iw_X4, (TTm (List.mem_append_right _ (t1m_1 (List.mem_of_getElem? (i := 180) rfl))) rfl)⟩, by decide, by decide +kernel, by decide +kernel⟩
theorem fl_X8_40 : FlI RX8 40 0 2 := ⟨⟨_, _, _, rfl, by decide, iw_X0, (TTm (List.mem_append_right _ (t1m_1 (List.mem_of_getElem? (i := 239) rfl))) rfl)⟩, by decide, by decide +kernel, by decide +kernel⟩
theorem fl_X8_41 : FlI RX8 41 0 8 := ⟨⟨_, _, _, rfl, by decide, iw_X0, (TTm (List.mem_append_right _ (t1m_2 (List.mem_of_getElem? (i := 14) rfl))) rfl)⟩, by decide, by decide +kernel, by decide +kernel⟩
theorem fl_X9_10 : FlR RX9 10 9 0 := ⟨⟨_, _, _, rfl, by decide, iw_X9, (TTm (List.mem_append_right _ (t1m_2 (List.mem_of_getElem? (i := 91) rfl))) rfl)⟩, by decide, by decide +kernel, by decide +kernel⟩
theorem fl_X9_20 : FlR RX9 20 9 1 := ⟨⟨_, _, _, rfl, by decide, iw_X9, (TTm (List.mem_append_right _ (t1m_2 (List.mem_of_getElem? (i := 92) rfl))) rfl)⟩, by decide, by decide +kernel, by decide +kernel⟩
theorem fl_X9_24 : FlR RX9 24 9 2 := ⟨⟨_, _, _, rfl, by decide, iw_X9, (TTm (List.mem_append_right _ (t1m_2 (List.mem_of_getElem? (i := 93) rfl))) rfl)⟩, by decide, by decide +kernel, by decide +kernel⟩
theorem fl_X9_32 : FlR RX9 32 9 3 := ⟨⟨_, _, _, rfl, by decide, iw_X9, (TTm (List.mem_append_right _ (t1m_2 (List.mem_of_getElem? (i := 94) rfl))) rfl)⟩, by decide, by decide +kernel, by decide +kernel⟩
theorem fl_X9_43 : FlI RX9 43 7 1 := ⟨⟨_, _, _, rfl, by decide, iw_X7, (TTm (List.mem_append_right _ (t1m_1 (List.mem_of_getElem? (i := 38) rfl))) rfl)⟩, by decide, by decide +kernel, by decide +kernel⟩
theorem fl_X9_55 : FlR RX9 55 8 0 := ⟨⟨_, _, _, rfl, by decide, iw_X8, (TTm (List.mem_append_right _ (t1m_2 (List.mem_of_getElem? (i := 51) rfl))) rfl)⟩, by decide, by decide +kernel, by decide +kernel⟩
theorem fl_X9_74 : FlI RX9 74 4 3 := ⟨⟨_, _, _, rfl, by decide, iw_X4, (TTm (List.mem_append_right _ (t1m_1 (List.mem_of_getElem? (i := 188) rfl))) rfl)⟩, by decide, by decide +kernel, by decide +kernel⟩
theorem fl_X9_77 : FlI RX9 77 4 4 := ⟨⟨_, _, _, rfl, by decide, iw_X4, (TTm (List.mem_append_right _ (t1m_1 (List.mem_of_getElem? (i := 191) rfl))) rfl)⟩, by decide, by decide +kernel, by decide +kernel⟩
theorem fl_X9_101 : FlR RX9 101 4 5 := ⟨⟨_, _, _, rfl, by decide, iw_X4, (TTm (List.mem_append_right _ (t1m_1 (List.mem_of_getElem? (i := 193) rfl))) rfl)⟩, by decide, by decide +kernel, by decide +kernel⟩
theorem fl_X9_105 : FlI RX9 105 4 1 := ⟨⟨_, _, _, rfl, by decide, iw_X4, (TTm (List.mem_append_right _ (t1m_1 (List.mem_of_getElem? (i := 183) rfl))) rfl)⟩, by decide, by decide +kernel, by decide +kernel⟩
theorem fl_X9_108 : FlI RX9 108 4 2 := ⟨⟨_, _, _, rfl, by decide, iw_X4, (TTm (List.mem_append_right _ (t1m_1 (List.mem_of_getElem? (i := 186) rfl))) rfl)⟩, by decide, by decide +kernel, by decide +kernel⟩
theorem fl_X9_119 : FlR RX9 119 8 1 := ⟨⟨_, _, _, rfl, by decide, iw_X8, (TTm (List.mem_append_right _ (t1m_2 (List.mem_of_getElem? (i := 54) rfl))) rfl)⟩, by decide, by decide +kernel, by decide +kernel⟩
theorem fl_X9_123 : FlR RX9 123 6 1 := ⟨⟨_, _, _, rfl, by decide, iw_X6, (TTm (List.mem_append_right _ (t1m_1 (List.mem_of_getElem? (i := 73) rfl))) rfl)⟩, by decide, by decide +kernel, by decide +kernel⟩
theorem fl_X9_132 : FlR RX9 132 0 0 := ⟨⟨_, _, _, rfl, by decide, iw_X0, (TTm (List.mem_append_right _ (t1m_1 (List.mem_of_getElem? (i := 234) rfl))) rfl)⟩, by decide, by decide +kernel, by decide +kernel⟩
theorem fl_X9_139 : FlI RX9 139 6 2 := ⟨⟨_, _, _, rfl, by decide, iw_X6, (TTm (List.mem_append_right _ (t1m_1 (List.mem_of_getElem? (i := 75) rfl))) rfl)⟩, by decide, by decide +kernel, by decide +kernel⟩
theorem fl_X9_142 : FlI RX9 142 6 3 := ⟨⟨_, _, _, rfl, by decide, iw_X6, (TTm (List.mem_append_right _ (t1m_1 (List.mem_of_getElem? (i := 77) rfl))) rfl)⟩, by decide, by decide +kernel, by decide +kernel⟩
theorem fl_X9_149 : FlI RX9 149 1 1 := ⟨⟨_, _, _, rfl, by decide, iw_X1, (TTm (List.mem_append_right _ (t1m_1 (List.mem_of_getElem? (i := 57) rfl))) rfl)⟩, by decide, by decide +kernel, by decide +kernel⟩
theorem fl_X9_152 : FlI RX9 152 1 2 := ⟨⟨_, _, _, rfl, by decide, iw_X1, (TTm (List.mem_append_right _ (t1m_1 (List.mem_of_getElem? (i := 62) rfl))) rfl)⟩, by decide, by decide +kernel, by decide +kernel⟩
theorem fl_X9_155 : FlI RX9 155 0 7 := ⟨⟨_, _, _, rfl, by decide, iw_X0, (TTm (List.mem_append_right _ (t1m_2 (List.mem_of_getElem? (i := 12) rfl))) rfl)⟩, by decide, by decide +kernel, by decide +kernel⟩
theorem fl_X9_161 : FlI RX9 161 0 8 := ⟨⟨_, _, _, rfl, by decide, iw_X0, (TTm (List.mem_append_right _ (t1m_2 (List.mem_of_getElem? (i := 15) rfl))) rfl)⟩, by decide, by decide +kernel, by decide +kernel⟩
theorem fl_X9_164 : FlI RX9 164 0 9 := ⟨⟨_, _, _, rfl, by decide, iw_X0, (TTm (List.mem_append_right _ (t1m_2 (List.mem_of_getElem? (i := 17) rfl))) rfl)⟩, by decide, by decide +kernel, by decide +kernel⟩
theorem fl_X9_167 : FlI RX9 167 0 10 := ⟨⟨_, _, _, rfl, by decide, iw_X0, (TTm (List.mem_append_right _ (t1m_2 (List.mem_of_getElem? (i := 20) rfl))) rfl)⟩, by decide, by decide +kernel, by decide +kernel⟩
theorem fl_X9_170 : FlI RX9 170 0 11 := ⟨⟨_, _, _, rfl, by decide, iw_X0, (TTm (List.mem_append_right _ (t1m_2 (List.mem_of_getElem? (i := 23) rfl))) rfl)⟩, by decide, by decide +kernel, by decide +kernel⟩
theorem fl_X9_189 : FlR RX9 189 8 2 := ⟨⟨_, _, _, rfl, by decide, iw_X8, (TTm (List.mem_append_right _ (t1m_2 (List.mem_of_getElem? (i := 56) rfl))) rfl)⟩, by decide, by decide +kernel, by decide +kernel⟩
theorem fl_X9_203 : FlI RX9 203 2 0 := ⟨⟨_, _, _, rfl, by decide, iw_X2, (TTm (List.mem_append_right _ (t1m_1 (List.mem_of_getElem? (i := 120) rfl))) rfl)⟩, by decide, by decide +kernel, by decide +kernel⟩
theorem fl_X9_204 : FlI RX9 204 2 1 := ⟨⟨_, _, _, rfl, by decide, iw_X2, (TTm (List.mem_append_right _ (t1m_1 (List.mem_of_getElem? (i := 123) rfl))) rfl)⟩, by decide, by decide +kernel, by decide +kernel⟩
theorem fl_X9_205 : FlI RX9 205 2 2 := ⟨⟨_, _, _, rfl, by decide, iw_X2, (TTm (List.mem_append_right _ (t1m_1 (List.mem_of_getElem? (i := 126) rfl))) rfl)⟩, by decide, by decide +kernel, by decide +kernel⟩
theorem fl_X9_216 : FlR RX9 216 5 1 := ⟨⟨_, _, _, rfl, by decide, iw_X5, (TTm (List.mem_append_right _ (t1m_2 (List.mem_of_getElem? (i := 70) rfl))) rfl)⟩, by decide, by decide +kernel, by decide +kernel⟩
theorem fw_0_2 : Fw 0 2 .boolean := ⟨_, _, _, tyX0, rfl, tyX0_ok, nmX0, rfl, by decide +kernel⟩
theorem fw_0_3 : Fw 0 3 .int := ⟨_, _, _, tyX0, rfl, tyX0_ok, nmX0, rfl, by decide +kernel⟩
theorem fw_0_4 : Fw 0 4 .int := ⟨_, _, _, tyX0, rfl, tyX0_ok, nmX0, rfl, by decide +kernel⟩
theorem fw_0_5 : Fw 0 5 .int := ⟨_, _, _, tyX0, rfl, tyX0_ok, nmX0, rfl, by decide +kernel⟩
theorem fw_0_6 : Fw 0 6 .int := ⟨_, _, _, tyX0, rfl, tyX0_ok, nmX0, rfl, by decide +kernel⟩
theorem fw_0_7 : Fw 0 7 .int := ⟨_, _, _, tyX0, rfl, tyX0_ok, nmX0, rfl, by decide +kernel⟩
theorem fw_0_8 : Fw 0 8 .int := ⟨_, _, _, tyX0, rfl, tyX0_ok, nmX0, rfl, by decide +kernel⟩
theorem fw_0_9 : Fw 0 9 .int := ⟨_, _, _, tyX0, rfl, tyX0_ok, nmX0, rfl, by decide +kernel⟩
theorem fw_0_10 : Fw 0 10 .int := ⟨_, _, _, tyX0, rfl, tyX0_ok, nmX0, rfl, by decide +kernel⟩
theorem fw_0_11 : Fw 0 11 .int := ⟨_, _, _, tyX0, rfl, tyX0_ok, nmX0, rfl, by decide +kernel⟩
theorem fw_1_1 : Fw 1 1 .int := ⟨_, _, _, tyX1, rfl, tyX1_ok, nmX1, rfl, by decide +kernel⟩
theorem fw_1_2 : Fw 1 2 .int := ⟨_, _, _, tyX1, rfl, tyX1_ok, nmX1, rfl, by decide +kernel⟩
theorem fw_2_0 : Fw 2 0 .int := ⟨_, _, _, tyX2, rfl, tyX2_ok, nmX2, rfl, by decide +kernel⟩
theorem fw_2_1 : Fw 2 1 .int := ⟨_, _, _, tyX2, rfl, tyX2_ok, nmX2, rfl, by decide +kernel⟩
theorem fw_2_2 : Fw 2 2 .int := ⟨_, _, _, tyX2, rfl, tyX2_ok, nmX2, rfl, by decide +kernel⟩
theorem fw_3_0 : Fw 3 0 .int := ⟨_, _, _, tyX3, rfl, tyX3_ok, nmX3, rfl, by decide +kernel⟩
theorem fw_3_1 : Fw 3 1 .int := ⟨_, _, _, tyX3, rfl, tyX3_ok, nmX3, rfl, by decide +kernel⟩
theorem fw_3_2 : Fw 3 2 .int := ⟨_, _, _, tyX3, rfl, tyX3_ok, nmX3, rfl, by decide +kernel⟩
theorem fw_3_3 : Fw 3 3 .int := ⟨_, _, _, tyX3, rfl, tyX3_ok, nmX3, rfl, by decide +kernel⟩
theorem fw_3_4 : Fw 3 4 .int := ⟨_, _, _, tyX3, rfl, tyX3_ok, nmX3, rfl, by decide +kernel⟩
theorem fw_3_5 : Fw 3 5 .int := ⟨_, _, _, tyX3, rfl, tyX3_ok, nmX3, rfl, by decide +kernel⟩
theorem fw_3_6 : Fw 3 6 .int := ⟨_, _, _, tyX3, rfl, tyX3_ok, nmX3, rfl, by decide +kernel⟩
theorem fw_3_7 : Fw 3 7 .int := ⟨_, _, _, tyX3, rfl, tyX3_ok, nmX3, rfl, by decide +kernel⟩
theorem fw_4_0 : Fw 4 0 .boolean := ⟨_, _, _, tyX4, rfl, tyX4_ok, nmX4, rfl, by decide +kernel⟩
theorem fw_4_1 : Fw 4 1 .int := ⟨_, _, _, tyX4, rfl, tyX4_ok, nmX4, rfl, by decide +kernel⟩
theorem fw_4_2 : Fw 4 2 .int := ⟨_, _, _, tyX4, rfl, tyX4_ok, nmX4, rfl, by decide +kernel⟩
theorem fw_4_3 : Fw 4 3 .int := ⟨_, _, _, tyX4, rfl, tyX4_ok, nmX4, rfl, by decide +kernel⟩
theorem fw_4_4 : Fw 4 4 .int := ⟨_, _, _, tyX4, rfl, tyX4_ok, nmX4, rfl, by decide +kernel⟩
theorem fw_4_6 : Fw 4 6 .int := ⟨_, _, _, tyX4, rfl, tyX4_ok, nmX4, rfl, by decide +kernel⟩
theorem fw_4_7 : Fw 4 7 .int := ⟨_, _, _, tyX4, rfl, tyX4_ok, nmX4, rfl, by decide +kernel⟩
theorem fw_4_8 : Fw 4 8 .int := ⟨_, _, _, tyX4, rfl, tyX4_ok, nmX4, rfl, by decide +kernel⟩
theorem fw_5_5 : Fw 5 5 .int := ⟨_, _, _, tyX5, rfl, tyX5_ok, nmX5, rfl, by decide +kernel⟩
theorem fw_5_6 : Fw 5 6 .int := ⟨_, _, _, tyX5, rfl, tyX5_ok, nmX5, rfl, by decide +kernel⟩
theorem fw_6_2 : Fw 6 2 .int := ⟨_, _, _, tyX6, rfl, tyX6_ok, nmX6, rfl, by decide +kernel⟩
theorem fw_6_3 : Fw 6 3 .int := ⟨_, _, _, tyX6, rfl, tyX6_ok, nmX6, rfl, by decide +kernel⟩
theorem fw_6_4 : Fw 6 4 .int := ⟨_, _, _, tyX6, rfl, tyX6_ok, nmX6, rfl, by decide +kernel⟩
theorem fw_6_5 : Fw 6 5 .int := ⟨_, _, _, tyX6, rfl, tyX6_ok, nmX6, rfl, by decide +kernel⟩
theorem fw_6_6 : Fw 6 6 .int := ⟨_, _, _, tyX6, rfl, tyX6_ok, nmX6, rfl, by decide +kernel⟩
theorem fw_7_1 : Fw 7 1 .int := ⟨_, _, _, tyX7, rfl, tyX7_ok, nmX7, rfl, by decide +kernel⟩
theorem fw_10_15 : Fw 10 15 .int := ⟨_, _, _, tyX10, rfl, tyX10_ok, nmX10, rfl, by decide +kernel⟩
theorem fw_10_25 : Fw 10 25 .int := ⟨_, _, _, tyX10, rfl, tyX10_ok, nmX10, rfl, by decide +kernel⟩
theorem fw_10_26 : Fw 10 26 .int := ⟨_, _, _, tyX10, rfl, tyX10_ok, nmX10, rfl, by decide +kernel⟩
theorem fw_10_27 : Fw 10 27 .int := ⟨_, _, _, tyX10, rfl, tyX10_ok, nmX10, rfl, by decide +kernel⟩
theorem fw_10_28 : Fw 10 28 .int := ⟨_, _, _, tyX10, rfl, tyX10_ok, nmX10, rfl, by decide +kernel⟩
theorem fw_10_29 : Fw 10 29 .int := ⟨_, _, _, tyX10, rfl, tyX10_ok, nmX10, rfl, by decide +kernel⟩
theorem fw_10_30 : Fw 10 30 .int := ⟨_, _, _, tyX10, rfl, tyX10_ok, nmX10, rfl, by decide +kernel⟩
theorem fw_10_31 : Fw 10 31 .int := ⟨_, _, _, tyX10, rfl, tyX10_ok, nmX10, rfl, by decide +kernel⟩
theorem fw_10_32 : Fw 10 32 .int := ⟨_, _, _, tyX10, rfl, tyX10_ok, nmX10, rfl, by decide +kernel⟩
theorem fw_10_33 : Fw 10 33 .int := ⟨_, _, _, tyX10, rfl, tyX10_ok, nmX10, rfl, by decide +kernel⟩
theorem fw_10_44 : Fw 10 44 .int := ⟨_, _, _, tyX10, rfl, tyX10_ok, nmX10, rfl, by decide +kernel⟩
theorem fw_10_45 : Fw 10 45 .int := ⟨_, _, _, tyX10, rfl, tyX10_ok, nmX10, rfl, by decide +kernel⟩
theorem fw_10_60 : Fw 10 60 .int := ⟨_, _, _, tyX10, rfl, tyX10_ok, nmX10, rfl, by decide +kernel⟩
theorem fw_10_61 : Fw 10 61 .int := ⟨_, _, _, tyX10, rfl, tyX10_ok, nmX10, rfl, by decide +kernel⟩
theorem fw_10_62 : Fw 10 62 .int := ⟨_, _, _, tyX10, rfl, tyX10_ok, nmX10, rfl, by decide +kernel⟩
theorem fw_10_66 : Fw 10 66 .boolean := ⟨_, _, _, tyX10, rfl, tyX10_ok, nmX10, rfl, by decide +kernel⟩
theorem ml_X0_39 : Cond.methodLink RX0 39 yX1_copyFrom ∈ TT := (TTm (List.mem_append_right _ (t1m_3 (List.mem_of_getElem? (i := 80) rfl))) rfl)
theorem ml_X0_52 : Cond.methodLink RX0 52 yX0_notMade ∈ TT := (TTm (List.mem_append_right _ (t1m_3 (List.mem_of_getElem? (i := 87) rfl))) rfl)
theorem ml_X0_55 : Cond.methodLink RX0 55 yX0_countOffsets ∈ TT := (TTm (List.mem_append_right _ (t1m_3 (List.mem_of_getElem? (i := 88) rfl))) rfl)
theorem ml_X0_58 : Cond.methodLink RX0 58 yJ7_fill_53178 ∈ TT := (TTm (List.mem_append_right _ (t1m_3 (List.mem_of_getElem? (i := 92) rfl))) rfl)
theorem ml_X0_72 : Cond.methodLink RX0 72 yX1_offsetAt ∈ TT := (TTm (List.mem_append_right _ (t1m_3 (List.mem_of_getElem? (i := 93) rfl))) rfl)
theorem ml_X0_76 : Cond.methodLink RX0 76 Lib.Math.min.name ∈ TT := (TTm (List.mem_append_right _ (t1m_3 (List.mem_of_getElem? (i := 98) rfl))) rfl)
theorem ml_X0_81 : Cond.methodLink RX0 81 Lib.Math.max.name ∈ TT := (TTm (List.mem_append_right _ (t1m_3 (List.mem_of_getElem? (i := 99) rfl))) rfl)
theorem ml_X1_22 : (RX1, 22, yX9_isFrom) ∈ nestL := by decide +kernel
theorem ml_X1_26 : Cond.methodLink RX1 26 yX1_cellAt ∈ TT := (TTm (List.mem_append_right _ (t1m_3 (List.mem_of_getElem? (i := 55) rfl))) rfl)
theorem ml_X1_30 : Cond.methodLink RX1 30 Lib.Math.min.name ∈ TT := (TTm (List.mem_append_right _ (t1m_3 (List.mem_of_getElem? (i := 97) rfl))) rfl)
theorem ml_X1_35 : Cond.methodLink RX1 35 arraycopyName ∈ TT := (TTm (List.mem_append_right _ (t1m_3 (List.mem_of_getElem? (i := 84) rfl))) rfl)
theorem ml_X1_41 : Cond.methodLink RX1 41 yX1_setCell ∈ TT := (TTm (List.mem_append_right _ (t1m_3 (List.mem_of_getElem? (i := 59) rfl))) rfl)
theorem ml_X1_45 : Cond.methodLink RX1 45 yX1_has ∈ TT := (TTm (List.mem_append_right _ (t1m_3 (List.mem_of_getElem? (i := 124) rfl))) rfl)
theorem ml_X1_49 : Cond.methodLink RX1 49 yX1_jointBelow ∈ TT := (TTm (List.mem_append_right _ (t1m_3 (List.mem_of_getElem? (i := 129) rfl))) rfl)
theorem ml_X1_52 : Cond.methodLink RX1 52 yX1_jointBeside ∈ TT := (TTm (List.mem_append_right _ (t1m_3 (List.mem_of_getElem? (i := 138) rfl))) rfl)
theorem ml_X1_55 : Cond.methodLink RX1 55 Lib.Math.abs.name ∈ TT := (TTm (List.mem_append_right _ (t1m_3 (List.mem_of_getElem? (i := 132) rfl))) rfl)
theorem ml_X1_59 : Cond.methodLink RX1 59 yX1_differ ∈ TT := (TTm (List.mem_append_right _ (t1m_3 (List.mem_of_getElem? (i := 135) rfl))) rfl)
theorem ml_X1_62 : Cond.methodLink RX1 62 yX1_jointAt ∈ TT := (TTm (List.mem_append_right _ (t1m_3 (List.mem_of_getElem? (i := 120) rfl))) rfl)
theorem ml_X10_167 : Cond.methodLink RX10 167 yX10_isLog ∈ TT := (TTm (List.mem_append_right _ (t1m_5 (List.mem_of_getElem? (i := 32) rfl))) rfl)
theorem ml_X10_174 : Cond.methodLink RX10 174 yX10_isIn ∈ TT := (TTm (List.mem_append_right _ (t1m_5 (List.mem_of_getElem? (i := 21) rfl))) rfl)
theorem ml_X10_178 : Cond.methodLink RX10 178 yX10_goes ∈ TT := (TTm (List.mem_append_right _ (t1m_5 (List.mem_of_getElem? (i := 24) rfl))) rfl)
theorem ml_X10_182 : Cond.methodLink RX10 182 yX10_isLeaf ∈ TT := (TTm (List.mem_append_right _ (t1m_5 (List.mem_of_getElem? (i := 40) rfl))) rfl)
theorem ml_X10_186 : Cond.methodLink RX10 186 yX10_laps ∈ TT := (TTm (List.mem_append_right _ (t1m_5 (List.mem_of_getElem? (i := 64) rfl))) rfl)
theorem ml_X10_190 : Cond.methodLink RX10 190 yX10_widthOf ∈ TT := (TTm (List.mem_append_right _ (t1m_5 (List.mem_of_getElem? (i := 52) rfl))) rfl)
theorem ml_X10_194 : Cond.methodLink RX10 194 yX10_toneOf ∈ TT := (TTm (List.mem_append_right _ (t1m_5 (List.mem_of_getElem? (i := 56) rfl))) rfl)
theorem ml_X10_197 : Cond.methodLink RX10 197 yX10_isFlawed ∈ TT := (TTm (List.mem_append_right _ (t1m_5 (List.mem_of_getElem? (i := 60) rfl))) rfl)
theorem ml_X10_201 : Cond.methodLink RX10 201 yX10_isWithin ∈ TT := (TTm (List.mem_append_right _ (t1m_5 (List.mem_of_getElem? (i := 71) rfl))) rfl)
theorem ml_X10_205 : Cond.methodLink RX10 205 yX10_flawIn ∈ TT := (TTm (List.mem_append_right _ (t1m_5 (List.mem_of_getElem? (i := 75) rfl))) rfl)
theorem ml_X10_230 : Cond.methodLink RX10 230 yX10_fail ∈ TT := (TTm (List.mem_append_right _ (t1m_5 (List.mem_of_getElem? (i := 111) rfl))) rfl)
theorem ml_X10_239 : Cond.methodLink RX10 239 yX10_repeats ∈ TT := (TTm (List.mem_append_right _ (t1m_5 (List.mem_of_getElem? (i := 119) rfl))) rfl)
theorem ml_X10_242 : Cond.methodLink RX10 242 yX10_turns ∈ TT := (TTm (List.mem_append_right _ (t1m_5 (List.mem_of_getElem? (i := 123) rfl))) rfl)
theorem ml_X10_246 : Cond.methodLink RX10 246 yX10_next ∈ TT := (TTm (List.mem_append_right _ (t1m_5 (List.mem_of_getElem? (i := 103) rfl))) rfl)
theorem ml_X10_250 : Cond.methodLink RX10 250 yX10_opens ∈ TT := (TTm (List.mem_append_right _ (t1m_5 (List.mem_of_getElem? (i := 107) rfl))) rfl)
theorem ml_X10_254 : Cond.methodLink RX10 254 yX10_begins ∈ TT := (TTm (List.mem_append_right _ (t1m_5 (List.mem_of_getElem? (i := 95) rfl))) rfl)
theorem ml_X10_257 : Cond.methodLink RX10 257 yX10_parts ∈ TT := (TTm (List.mem_append_right _ (t1m_5 (List.mem_of_getElem? (i := 99) rfl))) rfl)
theorem ml_X10_261 : Cond.methodLink RX10 261 yX10_comes ∈ TT := (TTm (List.mem_append_right _ (t1m_5 (List.mem_of_getElem? (i := 115) rfl))) rfl)
theorem ml_X10_264 : Cond.methodLink RX10 264 yX10_ends ∈ TT := (TTm (List.mem_append_right _ (t1m_5 (List.mem_of_getElem? (i := 127) rfl))) rfl)
theorem ml_X10_267 : Cond.methodLink RX10 267 yX10_rowIsPart ∈ TT := (TTm (List.mem_append_right _ (t1m_5 (List.mem_of_getElem? (i := 131) rfl))) rfl)
theorem ml_X10_270 : Cond.methodLink RX10 270 yX10_draws ∈ TT := (TTm (List.mem_append_right _ (t1m_5 (List.mem_of_getElem? (i := 91) rfl))) rfl)
theorem ml_X10_276 : Cond.methodLink RX10 276 yX10_isDoor ∈ TT := (TTm (List.mem_append_right _ (t1m_5 (List.mem_of_getElem? (i := 143) rfl))) rfl)
theorem ml_X10_279 : Cond.methodLink RX10 279 yX10_pieceOf ∈ TT := (TTm (List.mem_append_right _ (t1m_5 (List.mem_of_getElem? (i := 147) rfl))) rfl)
theorem ml_X10_283 : Cond.methodLink RX10 283 yX10_jointOf ∈ TT := (TTm (List.mem_append_right _ (t1m_5 (List.mem_of_getElem? (i := 151) rfl))) rfl)
theorem ml_X10_287 : Cond.methodLink RX10 287 yX10_joint ∈ TT := (TTm (List.mem_append_right _ (t1m_5 (List.mem_of_getElem? (i := 166) rfl))) rfl)
theorem ml_X10_291 : Cond.methodLink RX10 291 yX10_greatest ∈ TT := (TTm (List.mem_append_right _ (t1m_5 (List.mem_of_getElem? (i := 158) rfl))) rfl)
theorem ml_X10_295 : Cond.methodLink RX10 295 yX10_joints ∈ TT := (TTm (List.mem_append_right _ (t1m_5 (List.mem_of_getElem? (i := 162) rfl))) rfl)
theorem ml_X10_298 : Cond.methodLink RX10 298 yX10_isCut ∈ TT := (TTm (List.mem_append_right _ (t1m_5 (List.mem_of_getElem? (i := 179) rfl))) rfl)
theorem ml_X10_301 : Cond.methodLink RX10 301 yX10_hasTones ∈ TT := (TTm (List.mem_append_right _ (t1m_5 (List.mem_of_getElem? (i := 183) rfl))) rfl)
theorem ml_X10_304 : Cond.methodLink RX10 304 yX10_counts ∈ TT := (TTm (List.mem_append_right _ (t1m_5 (List.mem_of_getElem? (i := 195) rfl))) rfl)
theorem ml_X10_308 : Cond.methodLink RX10 308 yX10_hasLeaves ∈ TT := (TTm (List.mem_append_right _ (t1m_5 (List.mem_of_getElem? (i := 199) rfl))) rfl)
theorem ml_X10_311 : Cond.methodLink RX10 311 yX10_fits ∈ TT := (TTm (List.mem_append_right _ (t1m_5 (List.mem_of_getElem? (i := 203) rfl))) rfl)
theorem ml_X10_324 : Cond.methodLink RX10 324 yX10_places ∈ TT := (TTm (List.mem_append_right _ (t1m_5 (List.mem_of_getElem? (i := 191) rfl))) rfl)
theorem ml_X10_327 : Cond.methodLink RX10 327 yX10_cuts ∈ TT := (TTm (List.mem_append_right _ (t1m_5 (List.mem_of_getElem? (i := 211) rfl))) rfl)
theorem ml_X10_330 : Cond.methodLink RX10 330 yX10_logsOf ∈ TT := (TTm (List.mem_append_right _ (t1m_5 (List.mem_of_getElem? (i := 219) rfl))) rfl)
theorem ml_X10_333 : Cond.methodLink RX10 333 yX10_isPlaced ∈ TT := (TTm (List.mem_append_right _ (t1m_5 (List.mem_of_getElem? (i := 223) rfl))) rfl)
theorem ml_X2_15 : Cond.methodLink RX2 15 yJ7_fill_53178 ∈ TT := (TTm (List.mem_append_right _ (t1m_3 (List.mem_of_getElem? (i := 168) rfl))) rfl)
theorem ml_X2_36 : Cond.methodLink RX2 36 yX1_offsetAt ∈ TT := (TTm (List.mem_append_right _ (t1m_3 (List.mem_of_getElem? (i := 169) rfl))) rfl)
theorem ml_X2_41 : Cond.methodLink RX2 41 yX2_reasonOfCut ∈ TT := (TTm (List.mem_append_right _ (t1m_3 (List.mem_of_getElem? (i := 170) rfl))) rfl)
theorem ml_X2_45 : Cond.methodLink RX2 45 yX2_areTonesApart ∈ TT := (TTm (List.mem_append_right _ (t1m_3 (List.mem_of_getElem? (i := 186) rfl))) rfl)
theorem ml_X2_49 : Cond.methodLink RX2 49 yX4_hasLeaf ∈ TT := (TTm (List.mem_append_right _ (t1m_3 (List.mem_of_getElem? (i := 173) rfl))) rfl)
theorem ml_X2_56 : Cond.methodLink RX2 56 yX4_holds ∈ TT := (TTm (List.mem_append_right _ (t1m_3 (List.mem_of_getElem? (i := 174) rfl))) rfl)
theorem ml_X2_60 : Cond.methodLink RX2 60 yX4_isFlawed ∈ TT := (TTm (List.mem_append_right _ (t1m_3 (List.mem_of_getElem? (i := 175) rfl))) rfl)
theorem ml_X2_64 : Cond.methodLink RX2 64 yX4_isCut ∈ TT := (TTm (List.mem_append_right _ (t1m_3 (List.mem_of_getElem? (i := 182) rfl))) rfl)
theorem ml_X2_76 : Cond.methodLink RX2 76 Lib.Math.abs.name ∈ TT := (TTm (List.mem_append_right _ (t1m_3 (List.mem_of_getElem? (i := 189) rfl))) rfl)
theorem ml_X2_88 : Cond.methodLink RX2 88 yX2_findFrom ∈ TT := (TTm (List.mem_append_right _ (t1m_3 (List.mem_of_getElem? (i := 198) rfl))) rfl)
theorem ml_X2_92 : Cond.methodLink RX2 92 yX4_widthOf ∈ TT := (TTm (List.mem_append_right _ (t1m_3 (List.mem_of_getElem? (i := 202) rfl))) rfl)
theorem ml_X2_101 : Cond.methodLink RX2 101 Lib.Math.min.name ∈ TT := (TTm (List.mem_append_right _ (t1m_3 (List.mem_of_getElem? (i := 203) rfl))) rfl)
theorem ml_X2_104 : Cond.methodLink RX2 104 yX0_stackHigh ∈ TT := (TTm (List.mem_append_right _ (t1m_3 (List.mem_of_getElem? (i := 204) rfl))) rfl)
theorem ml_X2_107 : Cond.methodLink RX2 107 yX2_takenColumns ∈ TT := (TTm (List.mem_append_right _ (t1m_3 (List.mem_of_getElem? (i := 208) rfl))) rfl)
theorem ml_X2_111 : Cond.methodLink RX2 111 yX2_firstFree ∈ TT := (TTm (List.mem_append_right _ (t1m_3 (List.mem_of_getElem? (i := 215) rfl))) rfl)
theorem ml_X2_124 : Cond.methodLink RX2 124 yX4_takenColumns ∈ TT := (TTm (List.mem_append_right _ (t1m_3 (List.mem_of_getElem? (i := 211) rfl))) rfl)
theorem ml_X2_127 : Cond.methodLink RX2 127 yX4_mask ∈ TT := (TTm (List.mem_append_right _ (t1m_3 (List.mem_of_getElem? (i := 218) rfl))) rfl)
theorem ml_X3_25 : Cond.methodLink RX3 25 yX3_driftTo ∈ TT := (TTm (List.mem_append_right _ (t1m_2 (List.mem_of_getElem? (i := 173) rfl))) rfl)
theorem ml_X3_38 : (RX3, 38, yX9_isFrom) ∈ nestL := by decide +kernel
theorem ml_X3_44 : Cond.methodLink RX3 44 yX3_leftIn ∈ TT := (TTm (List.mem_append_right _ (t1m_2 (List.mem_of_getElem? (i := 229) rfl))) rfl)
theorem ml_X3_48 : Cond.methodLink RX3 48 yX3_topIn ∈ TT := (TTm (List.mem_append_right _ (t1m_2 (List.mem_of_getElem? (i := 230) rfl))) rfl)
theorem ml_X4_55 : Cond.methodLink RX4 55 yJ7_fill_53178 ∈ TT := (TTm (List.mem_append_right _ (t1m_2 (List.mem_of_getElem? (i := 136) rfl))) rfl)
theorem ml_X4_61 : Cond.methodLink RX4 61 yJ7_fill_d0a16 ∈ TT := (TTm (List.mem_append_right _ (t1m_2 (List.mem_of_getElem? (i := 137) rfl))) rfl)
theorem ml_X4_64 : Cond.methodLink RX4 64 Lib.Math.max.name ∈ TT := (TTm (List.mem_append_right _ (t1m_2 (List.mem_of_getElem? (i := 185) rfl))) rfl)
theorem ml_X4_70 : Cond.methodLink RX4 70 yX4_widthOf ∈ TT := (TTm (List.mem_append_right _ (t1m_2 (List.mem_of_getElem? (i := 188) rfl))) rfl)
theorem ml_X4_74 : Cond.methodLink RX4 74 yX3_begin ∈ TT := (TTm (List.mem_append_right _ (t1m_2 (List.mem_of_getElem? (i := 169) rfl))) rfl)
theorem ml_X4_78 : Cond.methodLink RX4 78 yX4_markFlaw ∈ TT := (TTm (List.mem_append_right _ (t1m_2 (List.mem_of_getElem? (i := 177) rfl))) rfl)
theorem ml_X4_85 : Cond.methodLink RX4 85 yX3_driftTo ∈ TT := (TTm (List.mem_append_right _ (t1m_2 (List.mem_of_getElem? (i := 210) rfl))) rfl)
theorem ml_X4_92 : Cond.methodLink RX4 92 yX3_leftIn ∈ TT := (TTm (List.mem_append_right _ (t1m_2 (List.mem_of_getElem? (i := 181) rfl))) rfl)
theorem ml_X4_96 : Cond.methodLink RX4 96 Lib.Math.min.name ∈ TT := (TTm (List.mem_append_right _ (t1m_2 (List.mem_of_getElem? (i := 192) rfl))) rfl)
theorem ml_X4_99 : Cond.methodLink RX4 99 yX3_topIn ∈ TT := (TTm (List.mem_append_right _ (t1m_2 (List.mem_of_getElem? (i := 195) rfl))) rfl)
theorem ml_X4_105 : Cond.methodLink RX4 105 yX4_mask ∈ TT := (TTm (List.mem_append_right _ (t1m_2 (List.mem_of_getElem? (i := 199) rfl))) rfl)
theorem ml_X4_109 : Cond.methodLink RX4 109 yX3_overlaps ∈ TT := (TTm (List.mem_append_right _ (t1m_2 (List.mem_of_getElem? (i := 224) rfl))) rfl)
theorem ml_X4_113 : Cond.methodLink RX4 113 yX4_meets ∈ TT := (TTm (List.mem_append_right _ (t1m_3 (List.mem_of_getElem? (i := 179) rfl))) rfl)
theorem ml_X4_125 : Cond.methodLink RX4 125 yX4_hasLeaf ∈ TT := (TTm (List.mem_append_right _ (t1m_4 (List.mem_of_getElem? (i := 5) rfl))) rfl)
theorem ml_X4_132 : Cond.methodLink RX4 132 yX0_stackHigh ∈ TT := (TTm (List.mem_append_right _ (t1m_4 (List.mem_of_getElem? (i := 6) rfl))) rfl)
theorem ml_X4_139 : Cond.methodLink RX4 139 yX4_changeCuts ∈ TT := (TTm (List.mem_append_right _ (t1m_4 (List.mem_of_getElem? (i := 1) rfl))) rfl)
theorem ml_X5_31 : Cond.methodLink RX5 31 yJ7_fill_53178 ∈ TT := (TTm (List.mem_append_right _ (t1m_2 (List.mem_of_getElem? (i := 64) rfl))) rfl)
theorem ml_X5_37 : Cond.methodLink RX5 37 yX5_gatherWaiting ∈ TT := (TTm (List.mem_append_right _ (t1m_4 (List.mem_of_getElem? (i := 15) rfl))) rfl)
theorem ml_X5_45 : Cond.methodLink RX5 45 yX5_tryDoor ∈ TT := (TTm (List.mem_append_right _ (t1m_4 (List.mem_of_getElem? (i := 20) rfl))) rfl)
theorem ml_X5_62 : Cond.methodLink RX5 62 yX0_isMade ∈ TT := (TTm (List.mem_append_right _ (t1m_4 (List.mem_of_getElem? (i := 19) rfl))) rfl)
theorem ml_X5_65 : Cond.methodLink RX5 65 yJ6_bitCount_0f7a4 ∈ TT := (TTm (List.mem_append_right _ (t1m_4 (List.mem_of_getElem? (i := 24) rfl))) rfl)
theorem ml_X5_71 : Cond.methodLink RX5 71 arraycopyName ∈ TT := (TTm (List.mem_append_right _ (t1m_4 (List.mem_of_getElem? (i := 30) rfl))) rfl)
theorem ml_X5_77 : Cond.methodLink RX5 77 yX8_makeIn ∈ TT := (TTm (List.mem_append_right _ (t1m_4 (List.mem_of_getElem? (i := 31) rfl))) rfl)
theorem ml_X5_81 : Cond.methodLink RX5 81 yX8_takeBack ∈ TT := (TTm (List.mem_append_right _ (t1m_4 (List.mem_of_getElem? (i := 32) rfl))) rfl)
theorem ml_X6_35 : Cond.methodLink RX6 35 yX6_readRow ∈ TT := (TTm (List.mem_append_right _ (t1m_3 (List.mem_of_getElem? (i := 11) rfl))) rfl)
theorem ml_X6_39 : Cond.methodLink RX6 39 yX6_nextByte ∈ TT := (TTm (List.mem_append_right _ (t1m_3 (List.mem_of_getElem? (i := 23) rfl))) rfl)
theorem ml_X6_43 : Cond.methodLink RX6 43 yX6_refuse ∈ TT := (TTm (List.mem_append_right _ (t1m_3 (List.mem_of_getElem? (i := 35) rfl))) rfl)
theorem ml_X6_55 : Cond.methodLink RX6 55 yX6_readColumn ∈ TT := (TTm (List.mem_append_right _ (t1m_3 (List.mem_of_getElem? (i := 15) rfl))) rfl)
theorem ml_X6_58 : Cond.methodLink RX6 58 yX6_readPart ∈ TT := (TTm (List.mem_append_right _ (t1m_3 (List.mem_of_getElem? (i := 19) rfl))) rfl)
theorem ml_X6_61 : (RX6, 61, yX9_isFrom) ∈ nestL := by decide +kernel
theorem ml_X6_64 : Cond.methodLink RX6 64 yX6_drawPiece ∈ TT := (TTm (List.mem_append_right _ (t1m_3 (List.mem_of_getElem? (i := 39) rfl))) rfl)
theorem ml_X6_67 : Cond.methodLink RX6 67 yX6_readRepeated ∈ TT := (TTm (List.mem_append_right _ (t1m_3 (List.mem_of_getElem? (i := 47) rfl))) rfl)
theorem ml_X6_71 : Cond.methodLink RX6 71 yX6_readBracket ∈ TT := (TTm (List.mem_append_right _ (t1m_3 (List.mem_of_getElem? (i := 60) rfl))) rfl)
theorem ml_X6_74 : Cond.methodLink RX6 74 yX6_readChanged ∈ TT := (TTm (List.mem_append_right _ (t1m_3 (List.mem_of_getElem? (i := 64) rfl))) rfl)
theorem ml_X6_78 : Cond.methodLink RX6 78 yX1_setCell ∈ TT := (TTm (List.mem_append_right _ (t1m_3 (List.mem_of_getElem? (i := 43) rfl))) rfl)
theorem ml_X6_82 : Cond.methodLink RX6 82 yX1_changeSides ∈ TT := (TTm (List.mem_append_right _ (t1m_3 (List.mem_of_getElem? (i := 68) rfl))) rfl)
theorem ml_X6_86 : Cond.methodLink RX6 86 yX1_changeEnds ∈ TT := (TTm (List.mem_append_right _ (t1m_3 (List.mem_of_getElem? (i := 72) rfl))) rfl)
theorem ml_X6_89 : Cond.methodLink RX6 89 yX1_repeat ∈ TT := (TTm (List.mem_append_right _ (t1m_3 (List.mem_of_getElem? (i := 51) rfl))) rfl)
theorem ml_X6_96 : Cond.methodLink RX6 96 yX7_byteAt ∈ TT := (TTm (List.mem_append_right _ (t1m_3 (List.mem_of_getElem? (i := 27) rfl))) rfl)
theorem ml_X6_100 : Cond.methodLink RX6 100 yX6_isBlank ∈ TT := (TTm (List.mem_append_right _ (t1m_3 (List.mem_of_getElem? (i := 31) rfl))) rfl)
theorem ml_X7_19 : (RX7, 19, yX9_isFrom) ∈ nestL := by decide +kernel
theorem ml_X8_32 : (RX8, 32, yX9_isFrom) ∈ nestL := by decide +kernel
theorem ml_X8_45 : Cond.methodLink RX8 45 yX0_notMade ∈ TT := (TTm (List.mem_append_right _ (t1m_2 (List.mem_of_getElem? (i := 144) rfl))) rfl)
theorem ml_X8_48 : Cond.methodLink RX8 48 yX8_logAt ∈ TT := (TTm (List.mem_append_right _ (t1m_3 (List.mem_of_getElem? (i := 231) rfl))) rfl)
theorem ml_X8_52 : Cond.methodLink RX8 52 yX2_find ∈ TT := (TTm (List.mem_append_right _ (t1m_3 (List.mem_of_getElem? (i := 232) rfl))) rfl)
theorem ml_X8_56 : Cond.methodLink RX8 56 yX0_madeAt ∈ TT := (TTm (List.mem_append_right _ (t1m_3 (List.mem_of_getElem? (i := 233) rfl))) rfl)
theorem ml_X8_60 : Cond.methodLink RX8 60 yX4_addCuts ∈ TT := (TTm (List.mem_append_right _ (t1m_3 (List.mem_of_getElem? (i := 237) rfl))) rfl)
theorem ml_X8_64 : Cond.methodLink RX8 64 yX4_removeCuts ∈ TT := (TTm (List.mem_append_right _ (t1m_4 (List.mem_of_getElem? (i := 36) rfl))) rfl)
theorem ml_X9_33 : Cond.methodLink RX9 33 yX7_hasRoom ∈ TT := (TTm (List.mem_append_right _ (t1m_2 (List.mem_of_getElem? (i := 108) rfl))) rfl)
theorem ml_X9_39 : Cond.methodLink RX9 39 yX7_append ∈ TT := (TTm (List.mem_append_right _ (t1m_2 (List.mem_of_getElem? (i := 112) rfl))) rfl)
theorem ml_X9_47 : Cond.methodLink RX9 47 yX7_shorten ∈ TT := (TTm (List.mem_append_right _ (t1m_2 (List.mem_of_getElem? (i := 120) rfl))) rfl)
theorem ml_X9_51 : Cond.methodLink RX9 51 yX9_isFrom ∈ TT := (TTm (List.mem_append_right _ (t1m_2 (List.mem_of_getElem? (i := 131) rfl))) rfl)
theorem ml_X9_61 : Cond.methodLink RX9 61 yX4_begin ∈ TT := (TTm (List.mem_append_right _ (t1m_2 (List.mem_of_getElem? (i := 132) rfl))) rfl)
theorem ml_X9_67 : Cond.methodLink RX9 67 yX8_forgetMadeOf ∈ TT := (TTm (List.mem_append_right _ (t1m_2 (List.mem_of_getElem? (i := 140) rfl))) rfl)
theorem ml_X9_70 : Cond.methodLink RX9 70 yX8_logAt ∈ TT := (TTm (List.mem_append_right _ (t1m_2 (List.mem_of_getElem? (i := 152) rfl))) rfl)
theorem ml_X9_80 : Cond.methodLink RX9 80 yX4_hasLeaf ∈ TT := (TTm (List.mem_append_right _ (t1m_2 (List.mem_of_getElem? (i := 161) rfl))) rfl)
theorem ml_X9_84 : Cond.methodLink RX9 84 yX4_addFlaw ∈ TT := (TTm (List.mem_append_right _ (t1m_2 (List.mem_of_getElem? (i := 165) rfl))) rfl)
theorem ml_X9_88 : Cond.methodLink RX9 88 yX4_driftLatest ∈ TT := (TTm (List.mem_append_right _ (t1m_2 (List.mem_of_getElem? (i := 206) rfl))) rfl)
theorem ml_X9_91 : Cond.methodLink RX9 91 yX4_widthOf ∈ TT := (TTm (List.mem_append_right _ (t1m_2 (List.mem_of_getElem? (i := 215) rfl))) rfl)
theorem ml_X9_95 : Cond.methodLink RX9 95 yX4_toneOf ∈ TT := (TTm (List.mem_append_right _ (t1m_2 (List.mem_of_getElem? (i := 216) rfl))) rfl)
theorem ml_X9_98 : Cond.methodLink RX9 98 yX4_countFlawsIn ∈ TT := (TTm (List.mem_append_right _ (t1m_2 (List.mem_of_getElem? (i := 220) rfl))) rfl)
theorem ml_X9_109 : Cond.methodLink RX9 109 yX4_holds ∈ TT := (TTm (List.mem_append_right _ (t1m_2 (List.mem_of_getElem? (i := 235) rfl))) rfl)
theorem ml_X9_113 : Cond.methodLink RX9 113 yX4_leastFlawIn ∈ TT := (TTm (List.mem_append_right _ (t1m_2 (List.mem_of_getElem? (i := 239) rfl))) rfl)
theorem ml_X9_116 : Cond.methodLink RX9 116 yX6_readTape ∈ TT := (TTm (List.mem_append_right _ (t1m_3 (List.mem_of_getElem? (i := 7) rfl))) rfl)
theorem ml_X9_127 : Cond.methodLink RX9 127 yX0_begin ∈ TT := (TTm (List.mem_append_right _ (t1m_3 (List.mem_of_getElem? (i := 76) rfl))) rfl)
theorem ml_X9_133 : Cond.methodLink RX9 133 yX1_count ∈ TT := (TTm (List.mem_append_right _ (t1m_3 (List.mem_of_getElem? (i := 100) rfl))) rfl)
theorem ml_X9_145 : Cond.methodLink RX9 145 yX8_doorAt ∈ TT := (TTm (List.mem_append_right _ (t1m_3 (List.mem_of_getElem? (i := 112) rfl))) rfl)
theorem ml_X9_158 : Cond.methodLink RX9 158 yX1_countJoints ∈ TT := (TTm (List.mem_append_right _ (t1m_3 (List.mem_of_getElem? (i := 116) rfl))) rfl)
theorem ml_X9_173 : Cond.methodLink RX9 173 yX1_has ∈ TT := (TTm (List.mem_append_right _ (t1m_3 (List.mem_of_getElem? (i := 145) rfl))) rfl)
theorem ml_X9_177 : Cond.methodLink RX9 177 yX1_cellAt ∈ TT := (TTm (List.mem_append_right _ (t1m_3 (List.mem_of_getElem? (i := 146) rfl))) rfl)
theorem ml_X9_181 : Cond.methodLink RX9 181 yX1_jointAt ∈ TT := (TTm (List.mem_append_right _ (t1m_3 (List.mem_of_getElem? (i := 151) rfl))) rfl)
theorem ml_X9_185 : Cond.methodLink RX9 185 yX1_isLike ∈ TT := (TTm (List.mem_append_right _ (t1m_3 (List.mem_of_getElem? (i := 156) rfl))) rfl)
theorem ml_X9_193 : Cond.methodLink RX9 193 yX2_reason ∈ TT := (TTm (List.mem_append_right _ (t1m_3 (List.mem_of_getElem? (i := 164) rfl))) rfl)
theorem ml_X9_199 : Cond.methodLink RX9 199 yX2_find ∈ TT := (TTm (List.mem_append_right _ (t1m_3 (List.mem_of_getElem? (i := 194) rfl))) rfl)
theorem ml_X9_206 : Cond.methodLink RX9 206 yX0_isMade ∈ TT := (TTm (List.mem_append_right _ (t1m_3 (List.mem_of_getElem? (i := 223) rfl))) rfl)
theorem ml_X9_209 : Cond.methodLink RX9 209 yX8_makeIn ∈ TT := (TTm (List.mem_append_right _ (t1m_3 (List.mem_of_getElem? (i := 227) rfl))) rfl)
theorem ml_X9_213 : Cond.methodLink RX9 213 yX5_tell ∈ TT := (TTm (List.mem_append_right _ (t1m_4 (List.mem_of_getElem? (i := 11) rfl))) rfl)
theorem ml_X9_219 : Cond.methodLink RX9 219 yX8_takeBack ∈ TT := (TTm (List.mem_append_right _ (t1m_4 (List.mem_of_getElem? (i := 48) rfl))) rfl)
theorem mw_J6_bitCount_0f7a4 : Mw yJ6_bitCount_0f7a4 cJ6_bitCount_0f7a4 1 (some .int) 1 := ⟨(TTm (List.mem_append_right _ (t1m_1 (List.mem_of_getElem? (i := 15) rfl))) rfl), (TTm (List.mem_append_right _ (t1m_4 (List.mem_of_getElem? (i := 26) rfl))) rfl), by decide +kernel, by decide +kernel, by decide +kernel⟩
theorem ms_J6_bitCount_0f7a4 : Cond.static yJ6_bitCount_0f7a4 ∈ TT := (TTm (List.mem_append_right _ (t1m_4 (List.mem_of_getElem? (i := 25) rfl))) rfl)
theorem mw_J7_fill_53178 : Mw yJ7_fill_53178 cJ7_fill_53178 4 none 2 := ⟨(TTm (List.mem_append_right _ (t1m_1 (List.mem_of_getElem? (i := 11) rfl))) rfl), (TTm (List.mem_append_right _ (t1m_2 (List.mem_of_getElem? (i := 66) rfl))) rfl), by decide +kernel, by decide +kernel, by decide +kernel⟩
theorem ms_J7_fill_53178 : Cond.static yJ7_fill_53178 ∈ TT := (TTm (List.mem_append_right _ (t1m_2 (List.mem_of_getElem? (i := 65) rfl))) rfl)
theorem mw_J7_fill_d0a16 : Mw yJ7_fill_d0a16 cJ7_fill_d0a16 5 none 2 := ⟨(TTm (List.mem_append_right _ (t1m_1 (List.mem_of_getElem? (i := 11) rfl))) rfl), (TTm (List.mem_append_right _ (t1m_2 (List.mem_of_getElem? (i := 139) rfl))) rfl), by decide +kernel, by decide +kernel, by decide +kernel⟩
theorem ms_J7_fill_d0a16 : Cond.static yJ7_fill_d0a16 ∈ TT := (TTm (List.mem_append_right _ (t1m_2 (List.mem_of_getElem? (i := 138) rfl))) rfl)
theorem mw_X0_begin : Mw yX0_begin cX0_begin 5 none 4 := ⟨(TTm (List.mem_append_right _ (t1m_1 (List.mem_of_getElem? (i := 10) rfl))) rfl), (TTm (List.mem_append_right _ (t1m_3 (List.mem_of_getElem? (i := 79) rfl))) rfl), by decide +kernel, by decide +kernel, by decide +kernel⟩
theorem mv_X0_begin : MwV yX0_begin := ⟨(TTm (List.mem_append_right _ (t1m_3 (List.mem_of_getElem? (i := 77) rfl))) rfl), (TTm (List.mem_append_right _ (t1m_3 (List.mem_of_getElem? (i := 78) rfl))) rfl)⟩
theorem mw_X0_countOffsets : Mw yX0_countOffsets cX0_countOffsets 4 none 0 := ⟨(TTm (List.mem_append_right _ (t1m_1 (List.mem_of_getElem? (i := 10) rfl))) rfl), (TTm (List.mem_append_right _ (t1m_3 (List.mem_of_getElem? (i := 91) rfl))) rfl), by decide +kernel, by decide +kernel, by decide +kernel⟩
theorem mv_X0_countOffsets : MwV yX0_countOffsets := ⟨(TTm (List.mem_append_right _ (t1m_3 (List.mem_of_getElem? (i := 90) rfl))) rfl), (TTm (List.mem_append_left _ (List.mem_of_getElem? (i := 10) rfl)) rfl)⟩
theorem mw_X0_isMade : Mw yX0_isMade cX0_isMade 1 (some .boolean) 0 := ⟨(TTm (List.mem_append_right _ (t1m_1 (List.mem_of_getElem? (i := 10) rfl))) rfl), (TTm (List.mem_append_right _ (t1m_3 (List.mem_of_getElem? (i := 226) rfl))) rfl), by decide +kernel, by decide +kernel, by decide +kernel⟩
theorem mv_X0_isMade : MwV yX0_isMade := ⟨(TTm (List.mem_append_right _ (t1m_3 (List.mem_of_getElem? (i := 224) rfl))) rfl), (TTm (List.mem_append_right _ (t1m_3 (List.mem_of_getElem? (i := 225) rfl))) rfl)⟩
theorem mw_X0_madeAt : Mw yX0_madeAt cX0_madeAt 3 none 2 := ⟨(TTm (List.mem_append_right _ (t1m_1 (List.mem_of_getElem? (i := 10) rfl))) rfl), (TTm (List.mem_append_right _ (t1m_3 (List.mem_of_getElem? (i := 236) rfl))) rfl), by decide +kernel, by decide +kernel, by decide +kernel⟩
theorem mv_X0_madeAt : MwV yX0_madeAt := ⟨(TTm (List.mem_append_right _ (t1m_3 (List.mem_of_getElem? (i := 234) rfl))) rfl), (TTm (List.mem_append_right _ (t1m_3 (List.mem_of_getElem? (i := 235) rfl))) rfl)⟩
theorem mw_X0_notMade : Mw yX0_notMade cX0_notMade 1 none 0 := ⟨(TTm (List.mem_append_right _ (t1m_1 (List.mem_of_getElem? (i := 10) rfl))) rfl), (TTm (List.mem_append_right _ (t1m_2 (List.mem_of_getElem? (i := 147) rfl))) rfl), by decide +kernel, by decide +kernel, by decide +kernel⟩
theorem mv_X0_notMade : MwV yX0_notMade := ⟨(TTm (List.mem_append_right _ (t1m_2 (List.mem_of_getElem? (i := 145) rfl))) rfl), (TTm (List.mem_append_right _ (t1m_2 (List.mem_of_getElem? (i := 146) rfl))) rfl)⟩
theorem mw_X0_stackHigh : Mw yX0_stackHigh cX0_stackHigh 2 (some .int) 1 := ⟨(TTm (List.mem_append_right _ (t1m_1 (List.mem_of_getElem? (i := 10) rfl))) rfl), (TTm (List.mem_append_right _ (t1m_3 (List.mem_of_getElem? (i := 207) rfl))) rfl), by decide +kernel, by decide +kernel, by decide +kernel⟩
theorem mv_X0_stackHigh : MwV yX0_stackHigh := ⟨(TTm (List.mem_append_right _ (t1m_3 (List.mem_of_getElem? (i := 205) rfl))) rfl), (TTm (List.mem_append_right _ (t1m_3 (List.mem_of_getElem? (i := 206) rfl))) rfl)⟩
theorem mw_X10_begins : Mw yX10_begins cX10_begins 1 none 0 := ⟨(TTm (List.mem_append_right _ (t1m_1 (List.mem_of_getElem? (i := 12) rfl))) rfl), (TTm (List.mem_append_right _ (t1m_5 (List.mem_of_getElem? (i := 98) rfl))) rfl), by decide +kernel, by decide +kernel, by decide +kernel⟩
theorem mv_X10_begins : MwV yX10_begins := ⟨(TTm (List.mem_append_right _ (t1m_5 (List.mem_of_getElem? (i := 97) rfl))) rfl), (TTm (List.mem_append_left _ (List.mem_of_getElem? (i := 24) rfl)) rfl)⟩
theorem mw_X10_comes : Mw yX10_comes cX10_comes 5 none 0 := ⟨(TTm (List.mem_append_right _ (t1m_1 (List.mem_of_getElem? (i := 12) rfl))) rfl), (TTm (List.mem_append_right _ (t1m_5 (List.mem_of_getElem? (i := 118) rfl))) rfl), by decide +kernel, by decide +kernel, by decide +kernel⟩
theorem mv_X10_comes : MwV yX10_comes := ⟨(TTm (List.mem_append_right _ (t1m_5 (List.mem_of_getElem? (i := 117) rfl))) rfl), (TTm (List.mem_append_left _ (List.mem_of_getElem? (i := 29) rfl)) rfl)⟩
theorem mw_X10_counts : Mw yX10_counts cX10_counts 4 none 1 := ⟨(TTm (List.mem_append_right _ (t1m_1 (List.mem_of_getElem? (i := 12) rfl))) rfl), (TTm (List.mem_append_right _ (t1m_5 (List.mem_of_getElem? (i := 198) rfl))) rfl), by decide +kernel, by decide +kernel, by decide +kernel⟩
theorem mv_X10_counts : MwV yX10_counts := ⟨(TTm (List.mem_append_right _ (t1m_5 (List.mem_of_getElem? (i := 197) rfl))) rfl), (TTm (List.mem_append_left _ (List.mem_of_getElem? (i := 41) rfl)) rfl)⟩
theorem mw_X10_cuts : Mw yX10_cuts cX10_cuts 4 none 2 := ⟨(TTm (List.mem_append_right _ (t1m_1 (List.mem_of_getElem? (i := 12) rfl))) rfl), (TTm (List.mem_append_right _ (t1m_5 (List.mem_of_getElem? (i := 214) rfl))) rfl), by decide +kernel, by decide +kernel, by decide +kernel⟩
theorem mv_X10_cuts : MwV yX10_cuts := ⟨(TTm (List.mem_append_right _ (t1m_5 (List.mem_of_getElem? (i := 213) rfl))) rfl), (TTm (List.mem_append_left _ (List.mem_of_getElem? (i := 44) rfl)) rfl)⟩
theorem mw_X10_draws : Mw yX10_draws cX10_draws 4 none 0 := ⟨(TTm (List.mem_append_right _ (t1m_1 (List.mem_of_getElem? (i := 12) rfl))) rfl), (TTm (List.mem_append_right _ (t1m_5 (List.mem_of_getElem? (i := 94) rfl))) rfl), by decide +kernel, by decide +kernel, by decide +kernel⟩
theorem mv_X10_draws : MwV yX10_draws := ⟨(TTm (List.mem_append_right _ (t1m_5 (List.mem_of_getElem? (i := 93) rfl))) rfl), (TTm (List.mem_append_left _ (List.mem_of_getElem? (i := 23) rfl)) rfl)⟩
theorem mw_X10_ends : Mw yX10_ends cX10_ends 5 none 0 := ⟨(TTm (List.mem_append_right _ (t1m_1 (List.mem_of_getElem? (i := 12) rfl))) rfl), (TTm (List.mem_append_right _ (t1m_5 (List.mem_of_getElem? (i := 130) rfl))) rfl), by decide +kernel, by decide +kernel, by decide +kernel⟩
theorem mv_X10_ends : MwV yX10_ends := ⟨(TTm (List.mem_append_right _ (t1m_5 (List.mem_of_getElem? (i := 129) rfl))) rfl), (TTm (List.mem_append_left _ (List.mem_of_getElem? (i := 32) rfl)) rfl)⟩
theorem mw_X10_fail : Mw yX10_fail cX10_fail 3 none 2 := ⟨(TTm (List.mem_append_right _ (t1m_1 (List.mem_of_getElem? (i := 12) rfl))) rfl), (TTm (List.mem_append_right _ (t1m_5 (List.mem_of_getElem? (i := 114) rfl))) rfl), by decide +kernel, by decide +kernel, by decide +kernel⟩
theorem mv_X10_fail : MwV yX10_fail := ⟨(TTm (List.mem_append_right _ (t1m_5 (List.mem_of_getElem? (i := 113) rfl))) rfl), (TTm (List.mem_append_left _ (List.mem_of_getElem? (i := 28) rfl)) rfl)⟩
theorem mw_X10_fits : Mw yX10_fits cX10_fits 8 (some .boolean) 5 := ⟨(TTm (List.mem_append_right _ (t1m_1 (List.mem_of_getElem? (i := 12) rfl))) rfl), (TTm (List.mem_append_right _ (t1m_5 (List.mem_of_getElem? (i := 206) rfl))) rfl), by decide +kernel, by decide +kernel, by decide +kernel⟩
theorem mv_X10_fits : MwV yX10_fits := ⟨(TTm (List.mem_append_right _ (t1m_5 (List.mem_of_getElem? (i := 205) rfl))) rfl), (TTm (List.mem_append_left _ (List.mem_of_getElem? (i := 43) rfl)) rfl)⟩
theorem mw_X10_flawIn : Mw yX10_flawIn cX10_flawIn 8 (some .int) 6 := ⟨(TTm (List.mem_append_right _ (t1m_1 (List.mem_of_getElem? (i := 12) rfl))) rfl), (TTm (List.mem_append_right _ (t1m_5 (List.mem_of_getElem? (i := 78) rfl))) rfl), by decide +kernel, by decide +kernel, by decide +kernel⟩
theorem mv_X10_flawIn : MwV yX10_flawIn := ⟨(TTm (List.mem_append_right _ (t1m_5 (List.mem_of_getElem? (i := 77) rfl))) rfl), (TTm (List.mem_append_left _ (List.mem_of_getElem? (i := 22) rfl)) rfl)⟩
theorem mw_X10_goes : Mw yX10_goes cX10_goes 5 none 2 := ⟨(TTm (List.mem_append_right _ (t1m_1 (List.mem_of_getElem? (i := 12) rfl))) rfl), (TTm (List.mem_append_right _ (t1m_5 (List.mem_of_getElem? (i := 27) rfl))) rfl), by decide +kernel, by decide +kernel, by decide +kernel⟩
theorem mv_X10_goes : MwV yX10_goes := ⟨(TTm (List.mem_append_right _ (t1m_5 (List.mem_of_getElem? (i := 26) rfl))) rfl), (TTm (List.mem_append_left _ (List.mem_of_getElem? (i := 15) rfl)) rfl)⟩
theorem mw_X10_greatest : Mw yX10_greatest cX10_greatest 5 (some .int) 1 := ⟨(TTm (List.mem_append_right _ (t1m_1 (List.mem_of_getElem? (i := 12) rfl))) rfl), (TTm (List.mem_append_right _ (t1m_5 (List.mem_of_getElem? (i := 161) rfl))) rfl), by decide +kernel, by decide +kernel, by decide +kernel⟩
theorem mv_X10_greatest : MwV yX10_greatest := ⟨(TTm (List.mem_append_right _ (t1m_5 (List.mem_of_getElem? (i := 160) rfl))) rfl), (TTm (List.mem_append_left _ (List.mem_of_getElem? (i := 36) rfl)) rfl)⟩
theorem mw_X10_hasLeaves : Mw yX10_hasLeaves cX10_hasLeaves 5 (some .boolean) 3 := ⟨(TTm (List.mem_append_right _ (t1m_1 (List.mem_of_getElem? (i := 12) rfl))) rfl), (TTm (List.mem_append_right _ (t1m_5 (List.mem_of_getElem? (i := 202) rfl))) rfl), by decide +kernel, by decide +kernel, by decide +kernel⟩
theorem mv_X10_hasLeaves : MwV yX10_hasLeaves := ⟨(TTm (List.mem_append_right _ (t1m_5 (List.mem_of_getElem? (i := 201) rfl))) rfl), (TTm (List.mem_append_left _ (List.mem_of_getElem? (i := 42) rfl)) rfl)⟩
theorem mw_X10_hasTones : Mw yX10_hasTones cX10_hasTones 9 (some .boolean) 3 := ⟨(TTm (List.mem_append_right _ (t1m_1 (List.mem_of_getElem? (i := 12) rfl))) rfl), (TTm (List.mem_append_right _ (t1m_5 (List.mem_of_getElem? (i := 186) rfl))) rfl), by decide +kernel, by decide +kernel, by decide +kernel⟩
theorem mv_X10_hasTones : MwV yX10_hasTones := ⟨(TTm (List.mem_append_right _ (t1m_5 (List.mem_of_getElem? (i := 185) rfl))) rfl), (TTm (List.mem_append_left _ (List.mem_of_getElem? (i := 39) rfl)) rfl)⟩
theorem mw_X10_isCut : Mw yX10_isCut cX10_isCut 8 (some .boolean) 6 := ⟨(TTm (List.mem_append_right _ (t1m_1 (List.mem_of_getElem? (i := 12) rfl))) rfl), (TTm (List.mem_append_right _ (t1m_5 (List.mem_of_getElem? (i := 182) rfl))) rfl), by decide +kernel, by decide +kernel, by decide +kernel⟩
theorem mv_X10_isCut : MwV yX10_isCut := ⟨(TTm (List.mem_append_right _ (t1m_5 (List.mem_of_getElem? (i := 181) rfl))) rfl), (TTm (List.mem_append_left _ (List.mem_of_getElem? (i := 38) rfl)) rfl)⟩
theorem mw_X10_isDoor : Mw yX10_isDoor cX10_isDoor 2 (some .boolean) 1 := ⟨(TTm (List.mem_append_right _ (t1m_1 (List.mem_of_getElem? (i := 12) rfl))) rfl), (TTm (List.mem_append_right _ (t1m_5 (List.mem_of_getElem? (i := 146) rfl))) rfl), by decide +kernel, by decide +kernel, by decide +kernel⟩
theorem mv_X10_isDoor : MwV yX10_isDoor := ⟨(TTm (List.mem_append_right _ (t1m_5 (List.mem_of_getElem? (i := 145) rfl))) rfl), (TTm (List.mem_append_left _ (List.mem_of_getElem? (i := 34) rfl)) rfl)⟩
theorem mw_X10_isFlawed : Mw yX10_isFlawed cX10_isFlawed 8 (some .boolean) 6 := ⟨(TTm (List.mem_append_right _ (t1m_1 (List.mem_of_getElem? (i := 12) rfl))) rfl), (TTm (List.mem_append_right _ (t1m_5 (List.mem_of_getElem? (i := 63) rfl))) rfl), by decide +kernel, by decide +kernel, by decide +kernel⟩
theorem mv_X10_isFlawed : MwV yX10_isFlawed := ⟨(TTm (List.mem_append_right _ (t1m_5 (List.mem_of_getElem? (i := 62) rfl))) rfl), (TTm (List.mem_append_left _ (List.mem_of_getElem? (i := 20) rfl)) rfl)⟩
theorem mw_X10_isIn : Mw yX10_isIn cX10_isIn 3 (some .boolean) 3 := ⟨(TTm (List.mem_append_right _ (t1m_1 (List.mem_of_getElem? (i := 12) rfl))) rfl), (TTm (List.mem_append_right _ (t1m_5 (List.mem_of_getElem? (i := 23) rfl))) rfl), by decide +kernel, by decide +kernel, by decide +kernel⟩
theorem ms_X10_isIn : Cond.static yX10_isIn ∈ TT := (TTm (List.mem_append_right _ (t1m_5 (List.mem_of_getElem? (i := 22) rfl))) rfl)
theorem mw_X10_isLeaf : Mw yX10_isLeaf cX10_isLeaf 3 (some .boolean) 2 := ⟨(TTm (List.mem_append_right _ (t1m_1 (List.mem_of_getElem? (i := 12) rfl))) rfl), (TTm (List.mem_append_right _ (t1m_5 (List.mem_of_getElem? (i := 43) rfl))) rfl), by decide +kernel, by decide +kernel, by decide +kernel⟩
theorem mv_X10_isLeaf : MwV yX10_isLeaf := ⟨(TTm (List.mem_append_right _ (t1m_5 (List.mem_of_getElem? (i := 42) rfl))) rfl), (TTm (List.mem_append_left _ (List.mem_of_getElem? (i := 17) rfl)) rfl)⟩
theorem mw_X10_isLog : Mw yX10_isLog cX10_isLog 2 (some .boolean) 1 := ⟨(TTm (List.mem_append_right _ (t1m_1 (List.mem_of_getElem? (i := 12) rfl))) rfl), (TTm (List.mem_append_right _ (t1m_5 (List.mem_of_getElem? (i := 35) rfl))) rfl), by decide +kernel, by decide +kernel, by decide +kernel⟩
theorem mv_X10_isLog : MwV yX10_isLog := ⟨(TTm (List.mem_append_right _ (t1m_5 (List.mem_of_getElem? (i := 34) rfl))) rfl), (TTm (List.mem_append_left _ (List.mem_of_getElem? (i := 16) rfl)) rfl)⟩
theorem mw_X10_isPlaced : Mw yX10_isPlaced cX10_isPlaced 5 (some .boolean) 1 := ⟨(TTm (List.mem_append_right _ (t1m_1 (List.mem_of_getElem? (i := 12) rfl))) rfl), (TTm (List.mem_append_right _ (t1m_5 (List.mem_of_getElem? (i := 226) rfl))) rfl), by decide +kernel, by decide +kernel, by decide +kernel⟩
theorem mv_X10_isPlaced : MwV yX10_isPlaced := ⟨(TTm (List.mem_append_right _ (t1m_5 (List.mem_of_getElem? (i := 225) rfl))) rfl), (TTm (List.mem_append_left _ (List.mem_of_getElem? (i := 46) rfl)) rfl)⟩
theorem mw_X10_isWithin : Mw yX10_isWithin cX10_isWithin 9 (some .boolean) 6 := ⟨(TTm (List.mem_append_right _ (t1m_1 (List.mem_of_getElem? (i := 12) rfl))) rfl), (TTm (List.mem_append_right _ (t1m_5 (List.mem_of_getElem? (i := 74) rfl))) rfl), by decide +kernel, by decide +kernel, by decide +kernel⟩
theorem mv_X10_isWithin : MwV yX10_isWithin := ⟨(TTm (List.mem_append_right _ (t1m_5 (List.mem_of_getElem? (i := 73) rfl))) rfl), (TTm (List.mem_append_left _ (List.mem_of_getElem? (i := 21) rfl)) rfl)⟩
theorem mw_X10_joint : Mw yX10_joint cX10_joint 5 (some .int) 4 := ⟨(TTm (List.mem_append_right _ (t1m_1 (List.mem_of_getElem? (i := 12) rfl))) rfl), (TTm (List.mem_append_right _ (t1m_5 (List.mem_of_getElem? (i := 142) rfl))) rfl), by decide +kernel, by decide +kernel, by decide +kernel⟩
theorem mv_X10_joint : MwV yX10_joint := ⟨(TTm (List.mem_append_right _ (t1m_5 (List.mem_of_getElem? (i := 140) rfl))) rfl), (TTm (List.mem_append_right _ (t1m_5 (List.mem_of_getElem? (i := 141) rfl))) rfl)⟩
theorem mw_X10_jointOf : Mw yX10_jointOf cX10_jointOf 7 (some .int) 3 := ⟨(TTm (List.mem_append_right _ (t1m_1 (List.mem_of_getElem? (i := 12) rfl))) rfl), (TTm (List.mem_append_right _ (t1m_5 (List.mem_of_getElem? (i := 153) rfl))) rfl), by decide +kernel, by decide +kernel, by decide +kernel⟩
theorem ms_X10_jointOf : Cond.static yX10_jointOf ∈ TT := (TTm (List.mem_append_right _ (t1m_5 (List.mem_of_getElem? (i := 152) rfl))) rfl)
theorem mw_X10_joints : Mw yX10_joints cX10_joints 6 (some .int) 2 := ⟨(TTm (List.mem_append_right _ (t1m_1 (List.mem_of_getElem? (i := 12) rfl))) rfl), (TTm (List.mem_append_right _ (t1m_5 (List.mem_of_getElem? (i := 165) rfl))) rfl), by decide +kernel, by decide +kernel, by decide +kernel⟩
theorem mv_X10_joints : MwV yX10_joints := ⟨(TTm (List.mem_append_right _ (t1m_5 (List.mem_of_getElem? (i := 164) rfl))) rfl), (TTm (List.mem_append_left _ (List.mem_of_getElem? (i := 37) rfl)) rfl)⟩
theorem mw_X10_laps : Mw yX10_laps cX10_laps 8 (some .boolean) 8 := ⟨(TTm (List.mem_append_right _ (t1m_1 (List.mem_of_getElem? (i := 12) rfl))) rfl), (TTm (List.mem_append_right _ (t1m_5 (List.mem_of_getElem? (i := 66) rfl))) rfl), by decide +kernel, by decide +kernel, by decide +kernel⟩
theorem ms_X10_laps : Cond.static yX10_laps ∈ TT := (TTm (List.mem_append_right _ (t1m_5 (List.mem_of_getElem? (i := 65) rfl))) rfl)
theorem mw_X10_logsOf : Mw yX10_logsOf cX10_logsOf 4 (some .int) 1 := ⟨(TTm (List.mem_append_right _ (t1m_1 (List.mem_of_getElem? (i := 12) rfl))) rfl), (TTm (List.mem_append_right _ (t1m_5 (List.mem_of_getElem? (i := 222) rfl))) rfl), by decide +kernel, by decide +kernel, by decide +kernel⟩
theorem mv_X10_logsOf : MwV yX10_logsOf := ⟨(TTm (List.mem_append_right _ (t1m_5 (List.mem_of_getElem? (i := 221) rfl))) rfl), (TTm (List.mem_append_left _ (List.mem_of_getElem? (i := 45) rfl)) rfl)⟩
theorem mw_X10_next : Mw yX10_next cX10_next 1 (some .int) 0 := ⟨(TTm (List.mem_append_right _ (t1m_1 (List.mem_of_getElem? (i := 12) rfl))) rfl), (TTm (List.mem_append_right _ (t1m_5 (List.mem_of_getElem? (i := 106) rfl))) rfl), by decide +kernel, by decide +kernel, by decide +kernel⟩
theorem mv_X10_next : MwV yX10_next := ⟨(TTm (List.mem_append_right _ (t1m_5 (List.mem_of_getElem? (i := 105) rfl))) rfl), (TTm (List.mem_append_left _ (List.mem_of_getElem? (i := 26) rfl)) rfl)⟩
theorem mw_X10_opens : Mw yX10_opens cX10_opens 5 none 4 := ⟨(TTm (List.mem_append_right _ (t1m_1 (List.mem_of_getElem? (i := 12) rfl))) rfl), (TTm (List.mem_append_right _ (t1m_5 (List.mem_of_getElem? (i := 110) rfl))) rfl), by decide +kernel, by decide +kernel, by decide +kernel⟩
theorem mv_X10_opens : MwV yX10_opens := ⟨(TTm (List.mem_append_right _ (t1m_5 (List.mem_of_getElem? (i := 109) rfl))) rfl), (TTm (List.mem_append_left _ (List.mem_of_getElem? (i := 27) rfl)) rfl)⟩
theorem mw_X10_parts : Mw yX10_parts cX10_parts 3 (some .boolean) 0 := ⟨(TTm (List.mem_append_right _ (t1m_1 (List.mem_of_getElem? (i := 12) rfl))) rfl), (TTm (List.mem_append_right _ (t1m_5 (List.mem_of_getElem? (i := 102) rfl))) rfl), by decide +kernel, by decide +kernel, by decide +kernel⟩
theorem mv_X10_parts : MwV yX10_parts := ⟨(TTm (List.mem_append_right _ (t1m_5 (List.mem_of_getElem? (i := 101) rfl))) rfl), (TTm (List.mem_append_left _ (List.mem_of_getElem? (i := 25) rfl)) rfl)⟩
theorem mw_X10_pieceOf : Mw yX10_pieceOf cX10_pieceOf 4 (some .int) 3 := ⟨(TTm (List.mem_append_right _ (t1m_1 (List.mem_of_getElem? (i := 12) rfl))) rfl), (TTm (List.mem_append_right _ (t1m_5 (List.mem_of_getElem? (i := 150) rfl))) rfl), by decide +kernel, by decide +kernel, by decide +kernel⟩
theorem mv_X10_pieceOf : MwV yX10_pieceOf := ⟨(TTm (List.mem_append_right _ (t1m_5 (List.mem_of_getElem? (i := 149) rfl))) rfl), (TTm (List.mem_append_left _ (List.mem_of_getElem? (i := 35) rfl)) rfl)⟩
theorem mw_X10_places : Mw yX10_places cX10_places 6 (some .boolean) 2 := ⟨(TTm (List.mem_append_right _ (t1m_1 (List.mem_of_getElem? (i := 12) rfl))) rfl), (TTm (List.mem_append_right _ (t1m_5 (List.mem_of_getElem? (i := 194) rfl))) rfl), by decide +kernel, by decide +kernel, by decide +kernel⟩
theorem mv_X10_places : MwV yX10_places := ⟨(TTm (List.mem_append_right _ (t1m_5 (List.mem_of_getElem? (i := 193) rfl))) rfl), (TTm (List.mem_append_left _ (List.mem_of_getElem? (i := 40) rfl)) rfl)⟩
theorem mw_X10_repeats : Mw yX10_repeats cX10_repeats 5 none 2 := ⟨(TTm (List.mem_append_right _ (t1m_1 (List.mem_of_getElem? (i := 12) rfl))) rfl), (TTm (List.mem_append_right _ (t1m_5 (List.mem_of_getElem? (i := 122) rfl))) rfl), by decide +kernel, by decide +kernel, by decide +kernel⟩
theorem mv_X10_repeats : MwV yX10_repeats := ⟨(TTm (List.mem_append_right _ (t1m_5 (List.mem_of_getElem? (i := 121) rfl))) rfl), (TTm (List.mem_append_left _ (List.mem_of_getElem? (i := 30) rfl)) rfl)⟩
theorem mw_X10_rowIsPart : Mw yX10_rowIsPart cX10_rowIsPart 2 none 0 := ⟨(TTm (List.mem_append_right _ (t1m_1 (List.mem_of_getElem? (i := 12) rfl))) rfl), (TTm (List.mem_append_right _ (t1m_5 (List.mem_of_getElem? (i := 134) rfl))) rfl), by decide +kernel, by decide +kernel, by decide +kernel⟩
theorem mv_X10_rowIsPart : MwV yX10_rowIsPart := ⟨(TTm (List.mem_append_right _ (t1m_5 (List.mem_of_getElem? (i := 133) rfl))) rfl), (TTm (List.mem_append_left _ (List.mem_of_getElem? (i := 33) rfl)) rfl)⟩
theorem mw_X10_toneOf : Mw yX10_toneOf cX10_toneOf 3 (some .int) 2 := ⟨(TTm (List.mem_append_right _ (t1m_1 (List.mem_of_getElem? (i := 12) rfl))) rfl), (TTm (List.mem_append_right _ (t1m_5 (List.mem_of_getElem? (i := 59) rfl))) rfl), by decide +kernel, by decide +kernel, by decide +kernel⟩
theorem mv_X10_toneOf : MwV yX10_toneOf := ⟨(TTm (List.mem_append_right _ (t1m_5 (List.mem_of_getElem? (i := 58) rfl))) rfl), (TTm (List.mem_append_left _ (List.mem_of_getElem? (i := 19) rfl)) rfl)⟩
theorem mw_X10_turns : Mw yX10_turns cX10_turns 6 none 2 := ⟨(TTm (List.mem_append_right _ (t1m_1 (List.mem_of_getElem? (i := 12) rfl))) rfl), (TTm (List.mem_append_right _ (t1m_5 (List.mem_of_getElem? (i := 126) rfl))) rfl), by decide +kernel, by decide +kernel, by decide +kernel⟩
theorem mv_X10_turns : MwV yX10_turns := ⟨(TTm (List.mem_append_right _ (t1m_5 (List.mem_of_getElem? (i := 125) rfl))) rfl), (TTm (List.mem_append_left _ (List.mem_of_getElem? (i := 31) rfl)) rfl)⟩
theorem mw_X10_widthOf : Mw yX10_widthOf cX10_widthOf 4 (some .int) 2 := ⟨(TTm (List.mem_append_right _ (t1m_1 (List.mem_of_getElem? (i := 12) rfl))) rfl), (TTm (List.mem_append_right _ (t1m_5 (List.mem_of_getElem? (i := 55) rfl))) rfl), by decide +kernel, by decide +kernel, by decide +kernel⟩
theorem mv_X10_widthOf : MwV yX10_widthOf := ⟨(TTm (List.mem_append_right _ (t1m_5 (List.mem_of_getElem? (i := 54) rfl))) rfl), (TTm (List.mem_append_left _ (List.mem_of_getElem? (i := 18) rfl)) rfl)⟩
theorem mw_X1_cellAt : Mw yX1_cellAt cX1_cellAt 4 (some .int) 2 := ⟨(TTm (List.mem_append_right _ (t1m_1 (List.mem_of_getElem? (i := 4) rfl))) rfl), (TTm (List.mem_append_right _ (t1m_3 (List.mem_of_getElem? (i := 58) rfl))) rfl), by decide +kernel, by decide +kernel, by decide +kernel⟩
theorem mv_X1_cellAt : MwV yX1_cellAt := ⟨(TTm (List.mem_append_right _ (t1m_3 (List.mem_of_getElem? (i := 56) rfl))) rfl), (TTm (List.mem_append_right _ (t1m_3 (List.mem_of_getElem? (i := 57) rfl))) rfl)⟩
theorem mw_X1_changeEnds : Mw yX1_changeEnds cX1_changeEnds 9 none 4 := ⟨(TTm (List.mem_append_right _ (t1m_1 (List.mem_of_getElem? (i := 4) rfl))) rfl), (TTm (List.mem_append_right _ (t1m_3 (List.mem_of_getElem? (i := 75) rfl))) rfl), by decide +kernel, by decide +kernel, by decide +kernel⟩
theorem mv_X1_changeEnds : MwV yX1_changeEnds := ⟨(TTm (List.mem_append_right _ (t1m_3 (List.mem_of_getElem? (i := 73) rfl))) rfl), (TTm (List.mem_append_right _ (t1m_3 (List.mem_of_getElem? (i := 74) rfl))) rfl)⟩
theorem mw_X1_changeSides : Mw yX1_changeSides cX1_changeSides 9 none 4 := ⟨(TTm (List.mem_append_right _ (t1m_1 (List.mem_of_getElem? (i := 4) rfl))) rfl), (TTm (List.mem_append_right _ (t1m_3 (List.mem_of_getElem? (i := 71) rfl))) rfl), by decide +kernel, by decide +kernel, by decide +kernel⟩
theorem mv_X1_changeSides : MwV yX1_changeSides := ⟨(TTm (List.mem_append_right _ (t1m_3 (List.mem_of_getElem? (i := 69) rfl))) rfl), (TTm (List.mem_append_right _ (t1m_3 (List.mem_of_getElem? (i := 70) rfl))) rfl)⟩
theorem mw_X1_copyFrom : Mw yX1_copyFrom cX1_copyFrom 2 none 1 := ⟨(TTm (List.mem_append_right _ (t1m_1 (List.mem_of_getElem? (i := 4) rfl))) rfl), (TTm (List.mem_append_right _ (t1m_3 (List.mem_of_getElem? (i := 83) rfl))) rfl), by decide +kernel, by decide +kernel, by decide +kernel⟩
theorem mv_X1_copyFrom : MwV yX1_copyFrom := ⟨(TTm (List.mem_append_right _ (t1m_3 (List.mem_of_getElem? (i := 81) rfl))) rfl), (TTm (List.mem_append_right _ (t1m_3 (List.mem_of_getElem? (i := 82) rfl))) rfl)⟩
theorem mw_X1_count : Mw yX1_count cX1_count 1 (some .int) 0 := ⟨(TTm (List.mem_append_right _ (t1m_1 (List.mem_of_getElem? (i := 4) rfl))) rfl), (TTm (List.mem_append_right _ (t1m_3 (List.mem_of_getElem? (i := 103) rfl))) rfl), by decide +kernel, by decide +kernel, by decide +kernel⟩
theorem mv_X1_count : MwV yX1_count := ⟨(TTm (List.mem_append_right _ (t1m_3 (List.mem_of_getElem? (i := 101) rfl))) rfl), (TTm (List.mem_append_right _ (t1m_3 (List.mem_of_getElem? (i := 102) rfl))) rfl)⟩
theorem mw_X1_countJoints : Mw yX1_countJoints cX1_countJoints 5 (some .int) 1 := ⟨(TTm (List.mem_append_right _ (t1m_1 (List.mem_of_getElem? (i := 4) rfl))) rfl), (TTm (List.mem_append_right _ (t1m_3 (List.mem_of_getElem? (i := 119) rfl))) rfl), by decide +kernel, by decide +kernel, by decide +kernel⟩
theorem mv_X1_countJoints : MwV yX1_countJoints := ⟨(TTm (List.mem_append_right _ (t1m_3 (List.mem_of_getElem? (i := 117) rfl))) rfl), (TTm (List.mem_append_right _ (t1m_3 (List.mem_of_getElem? (i := 118) rfl))) rfl)⟩
theorem mw_X1_differ : Mw yX1_differ cX1_differ 3 (some .boolean) 3 := ⟨(TTm (List.mem_append_right _ (t1m_1 (List.mem_of_getElem? (i := 4) rfl))) rfl), (TTm (List.mem_append_right _ (t1m_3 (List.mem_of_getElem? (i := 137) rfl))) rfl), by decide +kernel, by decide +kernel, by decide +kernel⟩
theorem ms_X1_differ : Cond.static yX1_differ ∈ TT := (TTm (List.mem_append_right _ (t1m_3 (List.mem_of_getElem? (i := 136) rfl))) rfl)
theorem mw_X1_has : Mw yX1_has cX1_has 3 (some .boolean) 2 := ⟨(TTm (List.mem_append_right _ (t1m_1 (List.mem_of_getElem? (i := 4) rfl))) rfl), (TTm (List.mem_append_right _ (t1m_3 (List.mem_of_getElem? (i := 127) rfl))) rfl), by decide +kernel, by decide +kernel, by decide +kernel⟩
theorem mv_X1_has : MwV yX1_has := ⟨(TTm (List.mem_append_right _ (t1m_3 (List.mem_of_getElem? (i := 125) rfl))) rfl), (TTm (List.mem_append_right _ (t1m_3 (List.mem_of_getElem? (i := 126) rfl))) rfl)⟩
theorem mw_X1_isLike : Mw yX1_isLike cX1_isLike 10 (some .boolean) 3 := ⟨(TTm (List.mem_append_right _ (t1m_1 (List.mem_of_getElem? (i := 4) rfl))) rfl), (TTm (List.mem_append_right _ (t1m_3 (List.mem_of_getElem? (i := 159) rfl))) rfl), by decide +kernel, by decide +kernel, by decide +kernel⟩
theorem mv_X1_isLike : MwV yX1_isLike := ⟨(TTm (List.mem_append_right _ (t1m_3 (List.mem_of_getElem? (i := 157) rfl))) rfl), (TTm (List.mem_append_right _ (t1m_3 (List.mem_of_getElem? (i := 158) rfl))) rfl)⟩
theorem mw_X1_jointAt : Mw yX1_jointAt cX1_jointAt 8 (some .int) 3 := ⟨(TTm (List.mem_append_right _ (t1m_1 (List.mem_of_getElem? (i := 4) rfl))) rfl), (TTm (List.mem_append_right _ (t1m_3 (List.mem_of_getElem? (i := 123) rfl))) rfl), by decide +kernel, by decide +kernel, by decide +kernel⟩
theorem mv_X1_jointAt : MwV yX1_jointAt := ⟨(TTm (List.mem_append_right _ (t1m_3 (List.mem_of_getElem? (i := 121) rfl))) rfl), (TTm (List.mem_append_right _ (t1m_3 (List.mem_of_getElem? (i := 122) rfl))) rfl)⟩
theorem mw_X1_jointBelow : Mw yX1_jointBelow cX1_jointBelow 4 (some .int) 2 := ⟨(TTm (List.mem_append_right _ (t1m_1 (List.mem_of_getElem? (i := 4) rfl))) rfl), (TTm (List.mem_append_right _ (t1m_3 (List.mem_of_getElem? (i := 131) rfl))) rfl), by decide +kernel, by decide +kernel, by decide +kernel⟩
theorem ms_X1_jointBelow : Cond.static yX1_jointBelow ∈ TT := (TTm (List.mem_append_right _ (t1m_3 (List.mem_of_getElem? (i := 130) rfl))) rfl)
theorem mw_X1_jointBeside : Mw yX1_jointBeside cX1_jointBeside 4 (some .int) 2 := ⟨(TTm (List.mem_append_right _ (t1m_1 (List.mem_of_getElem? (i := 4) rfl))) rfl), (TTm (List.mem_append_right _ (t1m_3 (List.mem_of_getElem? (i := 140) rfl))) rfl), by decide +kernel, by decide +kernel, by decide +kernel⟩
theorem ms_X1_jointBeside : Cond.static yX1_jointBeside ∈ TT := (TTm (List.mem_append_right _ (t1m_3 (List.mem_of_getElem? (i := 139) rfl))) rfl)
theorem mw_X1_offsetAt : Mw yX1_offsetAt cX1_offsetAt 3 (some .int) 2 := ⟨(TTm (List.mem_append_right _ (t1m_1 (List.mem_of_getElem? (i := 4) rfl))) rfl), (TTm (List.mem_append_right _ (t1m_3 (List.mem_of_getElem? (i := 96) rfl))) rfl), by decide +kernel, by decide +kernel, by decide +kernel⟩
theorem mv_X1_offsetAt : MwV yX1_offsetAt := ⟨(TTm (List.mem_append_right _ (t1m_3 (List.mem_of_getElem? (i := 94) rfl))) rfl), (TTm (List.mem_append_right _ (t1m_3 (List.mem_of_getElem? (i := 95) rfl))) rfl)⟩
theorem mw_X1_repeat : Mw yX1_repeat cX1_repeat 8 none 5 := ⟨(TTm (List.mem_append_right _ (t1m_1 (List.mem_of_getElem? (i := 4) rfl))) rfl), (TTm (List.mem_append_right _ (t1m_3 (List.mem_of_getElem? (i := 54) rfl))) rfl), by decide +kernel, by decide +kernel, by decide +kernel⟩
theorem mv_X1_repeat : MwV yX1_repeat := ⟨(TTm (List.mem_append_right _ (t1m_3 (List.mem_of_getElem? (i := 52) rfl))) rfl), (TTm (List.mem_append_right _ (t1m_3 (List.mem_of_getElem? (i := 53) rfl))) rfl)⟩
theorem mw_X1_setCell : Mw yX1_setCell cX1_setCell 4 none 3 := ⟨(TTm (List.mem_append_right _ (t1m_1 (List.mem_of_getElem? (i := 4) rfl))) rfl), (TTm (List.mem_append_right _ (t1m_3 (List.mem_of_getElem? (i := 46) rfl))) rfl), by decide +kernel, by decide +kernel, by decide +kernel⟩
theorem mv_X1_setCell : MwV yX1_setCell := ⟨(TTm (List.mem_append_right _ (t1m_3 (List.mem_of_getElem? (i := 44) rfl))) rfl), (TTm (List.mem_append_right _ (t1m_3 (List.mem_of_getElem? (i := 45) rfl))) rfl)⟩
theorem mw_X2_areTonesApart : Mw yX2_areTonesApart cX2_areTonesApart 3 (some .boolean) 2 := ⟨(TTm (List.mem_append_right _ (t1m_1 (List.mem_of_getElem? (i := 7) rfl))) rfl), (TTm (List.mem_append_right _ (t1m_3 (List.mem_of_getElem? (i := 188) rfl))) rfl), by decide +kernel, by decide +kernel, by decide +kernel⟩
theorem ms_X2_areTonesApart : Cond.static yX2_areTonesApart ∈ TT := (TTm (List.mem_append_right _ (t1m_3 (List.mem_of_getElem? (i := 187) rfl))) rfl)
theorem mw_X2_find : Mw yX2_find cX2_find 4 (some .boolean) 2 := ⟨(TTm (List.mem_append_right _ (t1m_1 (List.mem_of_getElem? (i := 7) rfl))) rfl), (TTm (List.mem_append_right _ (t1m_3 (List.mem_of_getElem? (i := 197) rfl))) rfl), by decide +kernel, by decide +kernel, by decide +kernel⟩
theorem mv_X2_find : MwV yX2_find := ⟨(TTm (List.mem_append_right _ (t1m_3 (List.mem_of_getElem? (i := 195) rfl))) rfl), (TTm (List.mem_append_right _ (t1m_3 (List.mem_of_getElem? (i := 196) rfl))) rfl)⟩
theorem mw_X2_findFrom : Mw yX2_findFrom cX2_findFrom 8 (some .boolean) 3 := ⟨(TTm (List.mem_append_right _ (t1m_1 (List.mem_of_getElem? (i := 7) rfl))) rfl), (TTm (List.mem_append_right _ (t1m_3 (List.mem_of_getElem? (i := 201) rfl))) rfl), by decide +kernel, by decide +kernel, by decide +kernel⟩
theorem mv_X2_findFrom : MwV yX2_findFrom := ⟨(TTm (List.mem_append_right _ (t1m_3 (List.mem_of_getElem? (i := 200) rfl))) rfl), (TTm (List.mem_append_left _ (List.mem_of_getElem? (i := 11) rfl)) rfl)⟩
theorem mw_X2_firstFree : Mw yX2_firstFree cX2_firstFree 5 (some .int) 3 := ⟨(TTm (List.mem_append_right _ (t1m_1 (List.mem_of_getElem? (i := 7) rfl))) rfl), (TTm (List.mem_append_right _ (t1m_3 (List.mem_of_getElem? (i := 217) rfl))) rfl), by decide +kernel, by decide +kernel, by decide +kernel⟩
theorem ms_X2_firstFree : Cond.static yX2_firstFree ∈ TT := (TTm (List.mem_append_right _ (t1m_3 (List.mem_of_getElem? (i := 216) rfl))) rfl)
theorem mw_X2_reason : Mw yX2_reason cX2_reason 12 (some .int) 5 := ⟨(TTm (List.mem_append_right _ (t1m_1 (List.mem_of_getElem? (i := 7) rfl))) rfl), (TTm (List.mem_append_right _ (t1m_3 (List.mem_of_getElem? (i := 167) rfl))) rfl), by decide +kernel, by decide +kernel, by decide +kernel⟩
theorem mv_X2_reason : MwV yX2_reason := ⟨(TTm (List.mem_append_right _ (t1m_3 (List.mem_of_getElem? (i := 165) rfl))) rfl), (TTm (List.mem_append_right _ (t1m_3 (List.mem_of_getElem? (i := 166) rfl))) rfl)⟩
theorem mw_X2_reasonOfCut : Mw yX2_reasonOfCut cX2_reasonOfCut 9 (some .int) 5 := ⟨(TTm (List.mem_append_right _ (t1m_1 (List.mem_of_getElem? (i := 7) rfl))) rfl), (TTm (List.mem_append_right _ (t1m_3 (List.mem_of_getElem? (i := 172) rfl))) rfl), by decide +kernel, by decide +kernel, by decide +kernel⟩
theorem ms_X2_reasonOfCut : Cond.static yX2_reasonOfCut ∈ TT := (TTm (List.mem_append_right _ (t1m_3 (List.mem_of_getElem? (i := 171) rfl))) rfl)
theorem mw_X2_takenColumns : Mw yX2_takenColumns cX2_takenColumns 7 (some .long) 4 := ⟨(TTm (List.mem_append_right _ (t1m_1 (List.mem_of_getElem? (i := 7) rfl))) rfl), (TTm (List.mem_append_right _ (t1m_3 (List.mem_of_getElem? (i := 210) rfl))) rfl), by decide +kernel, by decide +kernel, by decide +kernel⟩
theorem ms_X2_takenColumns : Cond.static yX2_takenColumns ∈ TT := (TTm (List.mem_append_right _ (t1m_3 (List.mem_of_getElem? (i := 209) rfl))) rfl)
theorem mw_X3_begin : Mw yX3_begin cX3_begin 6 none 5 := ⟨(TTm (List.mem_append_right _ (t1m_1 (List.mem_of_getElem? (i := 9) rfl))) rfl), (TTm (List.mem_append_right _ (t1m_2 (List.mem_of_getElem? (i := 172) rfl))) rfl), by decide +kernel, by decide +kernel, by decide +kernel⟩
theorem mv_X3_begin : MwV yX3_begin := ⟨(TTm (List.mem_append_right _ (t1m_2 (List.mem_of_getElem? (i := 170) rfl))) rfl), (TTm (List.mem_append_right _ (t1m_2 (List.mem_of_getElem? (i := 171) rfl))) rfl)⟩
theorem mw_X3_driftTo : Mw yX3_driftTo cX3_driftTo 4 none 3 := ⟨(TTm (List.mem_append_right _ (t1m_1 (List.mem_of_getElem? (i := 9) rfl))) rfl), (TTm (List.mem_append_right _ (t1m_2 (List.mem_of_getElem? (i := 176) rfl))) rfl), by decide +kernel, by decide +kernel, by decide +kernel⟩
theorem mv_X3_driftTo : MwV yX3_driftTo := ⟨(TTm (List.mem_append_right _ (t1m_2 (List.mem_of_getElem? (i := 174) rfl))) rfl), (TTm (List.mem_append_right _ (t1m_2 (List.mem_of_getElem? (i := 175) rfl))) rfl)⟩
theorem mw_X3_leftIn : Mw yX3_leftIn cX3_leftIn 2 (some .int) 1 := ⟨(TTm (List.mem_append_right _ (t1m_1 (List.mem_of_getElem? (i := 9) rfl))) rfl), (TTm (List.mem_append_right _ (t1m_2 (List.mem_of_getElem? (i := 184) rfl))) rfl), by decide +kernel, by decide +kernel, by decide +kernel⟩
theorem mv_X3_leftIn : MwV yX3_leftIn := ⟨(TTm (List.mem_append_right _ (t1m_2 (List.mem_of_getElem? (i := 182) rfl))) rfl), (TTm (List.mem_append_right _ (t1m_2 (List.mem_of_getElem? (i := 183) rfl))) rfl)⟩
theorem mw_X3_overlaps : Mw yX3_overlaps cX3_overlaps 6 (some .boolean) 5 := ⟨(TTm (List.mem_append_right _ (t1m_1 (List.mem_of_getElem? (i := 9) rfl))) rfl), (TTm (List.mem_append_right _ (t1m_2 (List.mem_of_getElem? (i := 227) rfl))) rfl), by decide +kernel, by decide +kernel, by decide +kernel⟩
theorem mv_X3_overlaps : MwV yX3_overlaps := ⟨(TTm (List.mem_append_right _ (t1m_2 (List.mem_of_getElem? (i := 225) rfl))) rfl), (TTm (List.mem_append_right _ (t1m_2 (List.mem_of_getElem? (i := 226) rfl))) rfl)⟩
theorem mw_X3_topIn : Mw yX3_topIn cX3_topIn 2 (some .int) 1 := ⟨(TTm (List.mem_append_right _ (t1m_1 (List.mem_of_getElem? (i := 9) rfl))) rfl), (TTm (List.mem_append_right _ (t1m_2 (List.mem_of_getElem? (i := 198) rfl))) rfl), by decide +kernel, by decide +kernel, by decide +kernel⟩
theorem mv_X3_topIn : MwV yX3_topIn := ⟨(TTm (List.mem_append_right _ (t1m_2 (List.mem_of_getElem? (i := 196) rfl))) rfl), (TTm (List.mem_append_right _ (t1m_2 (List.mem_of_getElem? (i := 197) rfl))) rfl)⟩
theorem mw_X4_addCuts : Mw yX4_addCuts cX4_addCuts 2 none 1 := ⟨(TTm (List.mem_append_right _ (t1m_1 (List.mem_of_getElem? (i := 8) rfl))) rfl), (TTm (List.mem_append_right _ (t1m_4 (List.mem_of_getElem? (i := 0) rfl))) rfl), by decide +kernel, by decide +kernel, by decide +kernel⟩
theorem mv_X4_addCuts : MwV yX4_addCuts := ⟨(TTm (List.mem_append_right _ (t1m_3 (List.mem_of_getElem? (i := 238) rfl))) rfl), (TTm (List.mem_append_right _ (t1m_3 (List.mem_of_getElem? (i := 239) rfl))) rfl)⟩
theorem mw_X4_addFlaw : Mw yX4_addFlaw cX4_addFlaw 6 (some .int) 5 := ⟨(TTm (List.mem_append_right _ (t1m_1 (List.mem_of_getElem? (i := 8) rfl))) rfl), (TTm (List.mem_append_right _ (t1m_2 (List.mem_of_getElem? (i := 168) rfl))) rfl), by decide +kernel, by decide +kernel, by decide +kernel⟩
theorem mv_X4_addFlaw : MwV yX4_addFlaw := ⟨(TTm (List.mem_append_right _ (t1m_2 (List.mem_of_getElem? (i := 166) rfl))) rfl), (TTm (List.mem_append_right _ (t1m_2 (List.mem_of_getElem? (i := 167) rfl))) rfl)⟩
theorem mw_X4_begin : Mw yX4_begin cX4_begin 5 none 4 := ⟨(TTm (List.mem_append_right _ (t1m_1 (List.mem_of_getElem? (i := 8) rfl))) rfl), (TTm (List.mem_append_right _ (t1m_2 (List.mem_of_getElem? (i := 135) rfl))) rfl), by decide +kernel, by decide +kernel, by decide +kernel⟩
theorem mv_X4_begin : MwV yX4_begin := ⟨(TTm (List.mem_append_right _ (t1m_2 (List.mem_of_getElem? (i := 133) rfl))) rfl), (TTm (List.mem_append_right _ (t1m_2 (List.mem_of_getElem? (i := 134) rfl))) rfl)⟩
theorem mw_X4_changeCuts : Mw yX4_changeCuts cX4_changeCuts 7 none 2 := ⟨(TTm (List.mem_append_right _ (t1m_1 (List.mem_of_getElem? (i := 8) rfl))) rfl), (TTm (List.mem_append_right _ (t1m_4 (List.mem_of_getElem? (i := 4) rfl))) rfl), by decide +kernel, by decide +kernel, by decide +kernel⟩
theorem mv_X4_changeCuts : MwV yX4_changeCuts := ⟨(TTm (List.mem_append_right _ (t1m_4 (List.mem_of_getElem? (i := 3) rfl))) rfl), (TTm (List.mem_append_left _ (List.mem_of_getElem? (i := 12) rfl)) rfl)⟩
theorem mw_X4_countFlawsIn : Mw yX4_countFlawsIn cX4_countFlawsIn 4 (some .int) 1 := ⟨(TTm (List.mem_append_right _ (t1m_1 (List.mem_of_getElem? (i := 8) rfl))) rfl), (TTm (List.mem_append_right _ (t1m_2 (List.mem_of_getElem? (i := 223) rfl))) rfl), by decide +kernel, by decide +kernel, by decide +kernel⟩
theorem mv_X4_countFlawsIn : MwV yX4_countFlawsIn := ⟨(TTm (List.mem_append_right _ (t1m_2 (List.mem_of_getElem? (i := 221) rfl))) rfl), (TTm (List.mem_append_right _ (t1m_2 (List.mem_of_getElem? (i := 222) rfl))) rfl)⟩
theorem mw_X4_driftLatest : Mw yX4_driftLatest cX4_driftLatest 5 (some .boolean) 3 := ⟨(TTm (List.mem_append_right _ (t1m_1 (List.mem_of_getElem? (i := 8) rfl))) rfl), (TTm (List.mem_append_right _ (t1m_2 (List.mem_of_getElem? (i := 209) rfl))) rfl), by decide +kernel, by decide +kernel, by decide +kernel⟩
theorem mv_X4_driftLatest : MwV yX4_driftLatest := ⟨(TTm (List.mem_append_right _ (t1m_2 (List.mem_of_getElem? (i := 207) rfl))) rfl), (TTm (List.mem_append_right _ (t1m_2 (List.mem_of_getElem? (i := 208) rfl))) rfl)⟩
theorem mw_X4_hasLeaf : Mw yX4_hasLeaf cX4_hasLeaf 3 (some .boolean) 1 := ⟨(TTm (List.mem_append_right _ (t1m_1 (List.mem_of_getElem? (i := 8) rfl))) rfl), (TTm (List.mem_append_right _ (t1m_2 (List.mem_of_getElem? (i := 164) rfl))) rfl), by decide +kernel, by decide +kernel, by decide +kernel⟩
theorem mv_X4_hasLeaf : MwV yX4_hasLeaf := ⟨(TTm (List.mem_append_right _ (t1m_2 (List.mem_of_getElem? (i := 162) rfl))) rfl), (TTm (List.mem_append_right _ (t1m_2 (List.mem_of_getElem? (i := 163) rfl))) rfl)⟩
theorem mw_X4_holds : Mw yX4_holds cX4_holds 7 (some .boolean) 5 := ⟨(TTm (List.mem_append_right _ (t1m_1 (List.mem_of_getElem? (i := 8) rfl))) rfl), (TTm (List.mem_append_right _ (t1m_2 (List.mem_of_getElem? (i := 238) rfl))) rfl), by decide +kernel, by decide +kernel, by decide +kernel⟩
theorem mv_X4_holds : MwV yX4_holds := ⟨(TTm (List.mem_append_right _ (t1m_2 (List.mem_of_getElem? (i := 236) rfl))) rfl), (TTm (List.mem_append_right _ (t1m_2 (List.mem_of_getElem? (i := 237) rfl))) rfl)⟩
theorem mw_X4_isCut : Mw yX4_isCut cX4_isCut 6 (some .boolean) 5 := ⟨(TTm (List.mem_append_right _ (t1m_1 (List.mem_of_getElem? (i := 8) rfl))) rfl), (TTm (List.mem_append_right _ (t1m_3 (List.mem_of_getElem? (i := 185) rfl))) rfl), by decide +kernel, by decide +kernel, by decide +kernel⟩
theorem mv_X4_isCut : MwV yX4_isCut := ⟨(TTm (List.mem_append_right _ (t1m_3 (List.mem_of_getElem? (i := 183) rfl))) rfl), (TTm (List.mem_append_right _ (t1m_3 (List.mem_of_getElem? (i := 184) rfl))) rfl)⟩
theorem mw_X4_isFlawed : Mw yX4_isFlawed cX4_isFlawed 6 (some .boolean) 5 := ⟨(TTm (List.mem_append_right _ (t1m_1 (List.mem_of_getElem? (i := 8) rfl))) rfl), (TTm (List.mem_append_right _ (t1m_3 (List.mem_of_getElem? (i := 178) rfl))) rfl), by decide +kernel, by decide +kernel, by decide +kernel⟩
theorem mv_X4_isFlawed : MwV yX4_isFlawed := ⟨(TTm (List.mem_append_right _ (t1m_3 (List.mem_of_getElem? (i := 176) rfl))) rfl), (TTm (List.mem_append_right _ (t1m_3 (List.mem_of_getElem? (i := 177) rfl))) rfl)⟩
theorem mw_X4_leastFlawIn : Mw yX4_leastFlawIn cX4_leastFlawIn 7 (some .int) 5 := ⟨(TTm (List.mem_append_right _ (t1m_1 (List.mem_of_getElem? (i := 8) rfl))) rfl), (TTm (List.mem_append_right _ (t1m_3 (List.mem_of_getElem? (i := 2) rfl))) rfl), by decide +kernel, by decide +kernel, by decide +kernel⟩
theorem mv_X4_leastFlawIn : MwV yX4_leastFlawIn := ⟨(TTm (List.mem_append_right _ (t1m_3 (List.mem_of_getElem? (i := 0) rfl))) rfl), (TTm (List.mem_append_right _ (t1m_3 (List.mem_of_getElem? (i := 1) rfl))) rfl)⟩
theorem mw_X4_markFlaw : Mw yX4_markFlaw cX4_markFlaw 8 none 1 := ⟨(TTm (List.mem_append_right _ (t1m_1 (List.mem_of_getElem? (i := 8) rfl))) rfl), (TTm (List.mem_append_right _ (t1m_2 (List.mem_of_getElem? (i := 180) rfl))) rfl), by decide +kernel, by decide +kernel, by decide +kernel⟩
theorem mv_X4_markFlaw : MwV yX4_markFlaw := ⟨(TTm (List.mem_append_right _ (t1m_2 (List.mem_of_getElem? (i := 179) rfl))) rfl), (TTm (List.mem_append_left _ (List.mem_of_getElem? (i := 0) rfl)) rfl)⟩
theorem mw_X4_mask : Mw yX4_mask cX4_mask 2 (some .long) 2 := ⟨(TTm (List.mem_append_right _ (t1m_1 (List.mem_of_getElem? (i := 8) rfl))) rfl), (TTm (List.mem_append_right _ (t1m_2 (List.mem_of_getElem? (i := 201) rfl))) rfl), by decide +kernel, by decide +kernel, by decide +kernel⟩
theorem ms_X4_mask : Cond.static yX4_mask ∈ TT := (TTm (List.mem_append_right _ (t1m_2 (List.mem_of_getElem? (i := 200) rfl))) rfl)
theorem mw_X4_meets : Mw yX4_meets cX4_meets 9 (some .boolean) 5 := ⟨(TTm (List.mem_append_right _ (t1m_1 (List.mem_of_getElem? (i := 8) rfl))) rfl), (TTm (List.mem_append_right _ (t1m_3 (List.mem_of_getElem? (i := 181) rfl))) rfl), by decide +kernel, by decide +kernel, by decide +kernel⟩
theorem ms_X4_meets : Cond.static yX4_meets ∈ TT := (TTm (List.mem_append_right _ (t1m_3 (List.mem_of_getElem? (i := 180) rfl))) rfl)
theorem mw_X4_removeCuts : Mw yX4_removeCuts cX4_removeCuts 2 none 1 := ⟨(TTm (List.mem_append_right _ (t1m_1 (List.mem_of_getElem? (i := 8) rfl))) rfl), (TTm (List.mem_append_right _ (t1m_4 (List.mem_of_getElem? (i := 39) rfl))) rfl), by decide +kernel, by decide +kernel, by decide +kernel⟩
theorem mv_X4_removeCuts : MwV yX4_removeCuts := ⟨(TTm (List.mem_append_right _ (t1m_4 (List.mem_of_getElem? (i := 37) rfl))) rfl), (TTm (List.mem_append_right _ (t1m_4 (List.mem_of_getElem? (i := 38) rfl))) rfl)⟩
theorem mw_X4_takenColumns : Mw yX4_takenColumns cX4_takenColumns 8 (some .long) 3 := ⟨(TTm (List.mem_append_right _ (t1m_1 (List.mem_of_getElem? (i := 8) rfl))) rfl), (TTm (List.mem_append_right _ (t1m_3 (List.mem_of_getElem? (i := 214) rfl))) rfl), by decide +kernel, by decide +kernel, by decide +kernel⟩
theorem mv_X4_takenColumns : MwV yX4_takenColumns := ⟨(TTm (List.mem_append_right _ (t1m_3 (List.mem_of_getElem? (i := 212) rfl))) rfl), (TTm (List.mem_append_right _ (t1m_3 (List.mem_of_getElem? (i := 213) rfl))) rfl)⟩
theorem mw_X4_toneOf : Mw yX4_toneOf cX4_toneOf 2 (some .int) 1 := ⟨(TTm (List.mem_append_right _ (t1m_1 (List.mem_of_getElem? (i := 8) rfl))) rfl), (TTm (List.mem_append_right _ (t1m_2 (List.mem_of_getElem? (i := 219) rfl))) rfl), by decide +kernel, by decide +kernel, by decide +kernel⟩
theorem mv_X4_toneOf : MwV yX4_toneOf := ⟨(TTm (List.mem_append_right _ (t1m_2 (List.mem_of_getElem? (i := 217) rfl))) rfl), (TTm (List.mem_append_right _ (t1m_2 (List.mem_of_getElem? (i := 218) rfl))) rfl)⟩
theorem mw_X4_widthOf : Mw yX4_widthOf cX4_widthOf 2 (some .int) 1 := ⟨(TTm (List.mem_append_right _ (t1m_1 (List.mem_of_getElem? (i := 8) rfl))) rfl), (TTm (List.mem_append_right _ (t1m_2 (List.mem_of_getElem? (i := 191) rfl))) rfl), by decide +kernel, by decide +kernel, by decide +kernel⟩
theorem mv_X4_widthOf : MwV yX4_widthOf := ⟨(TTm (List.mem_append_right _ (t1m_2 (List.mem_of_getElem? (i := 189) rfl))) rfl), (TTm (List.mem_append_right _ (t1m_2 (List.mem_of_getElem? (i := 190) rfl))) rfl)⟩
theorem mw_X5_gatherWaiting : Mw yX5_gatherWaiting cX5_gatherWaiting 2 (some .boolean) 0 := ⟨(TTm (List.mem_append_right _ (t1m_1 (List.mem_of_getElem? (i := 5) rfl))) rfl), (TTm (List.mem_append_right _ (t1m_4 (List.mem_of_getElem? (i := 18) rfl))) rfl), by decide +kernel, by decide +kernel, by decide +kernel⟩
theorem mv_X5_gatherWaiting : MwV yX5_gatherWaiting := ⟨(TTm (List.mem_append_right _ (t1m_4 (List.mem_of_getElem? (i := 17) rfl))) rfl), (TTm (List.mem_append_left _ (List.mem_of_getElem? (i := 13) rfl)) rfl)⟩
theorem mw_X5_tell : Mw yX5_tell cX5_tell 2 (some .int) 0 := ⟨(TTm (List.mem_append_right _ (t1m_1 (List.mem_of_getElem? (i := 5) rfl))) rfl), (TTm (List.mem_append_right _ (t1m_4 (List.mem_of_getElem? (i := 14) rfl))) rfl), by decide +kernel, by decide +kernel, by decide +kernel⟩
theorem mv_X5_tell : MwV yX5_tell := ⟨(TTm (List.mem_append_right _ (t1m_4 (List.mem_of_getElem? (i := 12) rfl))) rfl), (TTm (List.mem_append_right _ (t1m_4 (List.mem_of_getElem? (i := 13) rfl))) rfl)⟩
theorem mw_X5_tryDoor : Mw yX5_tryDoor cX5_tryDoor 5 none 2 := ⟨(TTm (List.mem_append_right _ (t1m_1 (List.mem_of_getElem? (i := 5) rfl))) rfl), (TTm (List.mem_append_right _ (t1m_4 (List.mem_of_getElem? (i := 23) rfl))) rfl), by decide +kernel, by decide +kernel, by decide +kernel⟩
theorem mv_X5_tryDoor : MwV yX5_tryDoor := ⟨(TTm (List.mem_append_right _ (t1m_4 (List.mem_of_getElem? (i := 22) rfl))) rfl), (TTm (List.mem_append_left _ (List.mem_of_getElem? (i := 14) rfl)) rfl)⟩
theorem mw_X6_drawPiece : Mw yX6_drawPiece cX6_drawPiece 4 (some .boolean) 3 := ⟨(TTm (List.mem_append_right _ (t1m_1 (List.mem_of_getElem? (i := 2) rfl))) rfl), (TTm (List.mem_append_right _ (t1m_3 (List.mem_of_getElem? (i := 42) rfl))) rfl), by decide +kernel, by decide +kernel, by decide +kernel⟩
theorem mv_X6_drawPiece : MwV yX6_drawPiece := ⟨(TTm (List.mem_append_right _ (t1m_3 (List.mem_of_getElem? (i := 41) rfl))) rfl), (TTm (List.mem_append_left _ (List.mem_of_getElem? (i := 6) rfl)) rfl)⟩
theorem mw_X6_isBlank : Mw yX6_isBlank cX6_isBlank 1 (some .boolean) 1 := ⟨(TTm (List.mem_append_right _ (t1m_1 (List.mem_of_getElem? (i := 2) rfl))) rfl), (TTm (List.mem_append_right _ (t1m_3 (List.mem_of_getElem? (i := 33) rfl))) rfl), by decide +kernel, by decide +kernel, by decide +kernel⟩
theorem ms_X6_isBlank : Cond.static yX6_isBlank ∈ TT := (TTm (List.mem_append_right _ (t1m_3 (List.mem_of_getElem? (i := 32) rfl))) rfl)
theorem mw_X6_nextByte : Mw yX6_nextByte cX6_nextByte 1 (some .int) 0 := ⟨(TTm (List.mem_append_right _ (t1m_1 (List.mem_of_getElem? (i := 2) rfl))) rfl), (TTm (List.mem_append_right _ (t1m_3 (List.mem_of_getElem? (i := 26) rfl))) rfl), by decide +kernel, by decide +kernel, by decide +kernel⟩
theorem mv_X6_nextByte : MwV yX6_nextByte := ⟨(TTm (List.mem_append_right _ (t1m_3 (List.mem_of_getElem? (i := 25) rfl))) rfl), (TTm (List.mem_append_left _ (List.mem_of_getElem? (i := 4) rfl)) rfl)⟩
theorem mw_X6_readBracket : Mw yX6_readBracket cX6_readBracket 4 (some .boolean) 3 := ⟨(TTm (List.mem_append_right _ (t1m_1 (List.mem_of_getElem? (i := 2) rfl))) rfl), (TTm (List.mem_append_right _ (t1m_3 (List.mem_of_getElem? (i := 63) rfl))) rfl), by decide +kernel, by decide +kernel, by decide +kernel⟩
theorem mv_X6_readBracket : MwV yX6_readBracket := ⟨(TTm (List.mem_append_right _ (t1m_3 (List.mem_of_getElem? (i := 62) rfl))) rfl), (TTm (List.mem_append_left _ (List.mem_of_getElem? (i := 8) rfl)) rfl)⟩
theorem mw_X6_readChanged : Mw yX6_readChanged cX6_readChanged 5 (some .boolean) 4 := ⟨(TTm (List.mem_append_right _ (t1m_1 (List.mem_of_getElem? (i := 2) rfl))) rfl), (TTm (List.mem_append_right _ (t1m_3 (List.mem_of_getElem? (i := 67) rfl))) rfl), by decide +kernel, by decide +kernel, by decide +kernel⟩
theorem mv_X6_readChanged : MwV yX6_readChanged := ⟨(TTm (List.mem_append_right _ (t1m_3 (List.mem_of_getElem? (i := 66) rfl))) rfl), (TTm (List.mem_append_left _ (List.mem_of_getElem? (i := 9) rfl)) rfl)⟩
theorem mw_X6_readColumn : Mw yX6_readColumn cX6_readColumn 8 (some .boolean) 3 := ⟨(TTm (List.mem_append_right _ (t1m_1 (List.mem_of_getElem? (i := 2) rfl))) rfl), (TTm (List.mem_append_right _ (t1m_3 (List.mem_of_getElem? (i := 18) rfl))) rfl), by decide +kernel, by decide +kernel, by decide +kernel⟩
theorem mv_X6_readColumn : MwV yX6_readColumn := ⟨(TTm (List.mem_append_right _ (t1m_3 (List.mem_of_getElem? (i := 17) rfl))) rfl), (TTm (List.mem_append_left _ (List.mem_of_getElem? (i := 2) rfl)) rfl)⟩
theorem mw_X6_readPart : Mw yX6_readPart cX6_readPart 8 (some .boolean) 3 := ⟨(TTm (List.mem_append_right _ (t1m_1 (List.mem_of_getElem? (i := 2) rfl))) rfl), (TTm (List.mem_append_right _ (t1m_3 (List.mem_of_getElem? (i := 22) rfl))) rfl), by decide +kernel, by decide +kernel, by decide +kernel⟩
theorem mv_X6_readPart : MwV yX6_readPart := ⟨(TTm (List.mem_append_right _ (t1m_3 (List.mem_of_getElem? (i := 21) rfl))) rfl), (TTm (List.mem_append_left _ (List.mem_of_getElem? (i := 3) rfl)) rfl)⟩
theorem mw_X6_readRepeated : Mw yX6_readRepeated cX6_readRepeated 6 (some .boolean) 4 := ⟨(TTm (List.mem_append_right _ (t1m_1 (List.mem_of_getElem? (i := 2) rfl))) rfl), (TTm (List.mem_append_right _ (t1m_3 (List.mem_of_getElem? (i := 50) rfl))) rfl), by decide +kernel, by decide +kernel, by decide +kernel⟩
theorem mv_X6_readRepeated : MwV yX6_readRepeated := ⟨(TTm (List.mem_append_right _ (t1m_3 (List.mem_of_getElem? (i := 49) rfl))) rfl), (TTm (List.mem_append_left _ (List.mem_of_getElem? (i := 7) rfl)) rfl)⟩
theorem mw_X6_readRow : Mw yX6_readRow cX6_readRow 8 (some .boolean) 3 := ⟨(TTm (List.mem_append_right _ (t1m_1 (List.mem_of_getElem? (i := 2) rfl))) rfl), (TTm (List.mem_append_right _ (t1m_3 (List.mem_of_getElem? (i := 14) rfl))) rfl), by decide +kernel, by decide +kernel, by decide +kernel⟩
theorem mv_X6_readRow : MwV yX6_readRow := ⟨(TTm (List.mem_append_right _ (t1m_3 (List.mem_of_getElem? (i := 13) rfl))) rfl), (TTm (List.mem_append_left _ (List.mem_of_getElem? (i := 1) rfl)) rfl)⟩
theorem mw_X6_readTape : Mw yX6_readTape cX6_readTape 1 (some .boolean) 0 := ⟨(TTm (List.mem_append_right _ (t1m_1 (List.mem_of_getElem? (i := 2) rfl))) rfl), (TTm (List.mem_append_right _ (t1m_3 (List.mem_of_getElem? (i := 10) rfl))) rfl), by decide +kernel, by decide +kernel, by decide +kernel⟩
theorem mv_X6_readTape : MwV yX6_readTape := ⟨(TTm (List.mem_append_right _ (t1m_3 (List.mem_of_getElem? (i := 8) rfl))) rfl), (TTm (List.mem_append_right _ (t1m_3 (List.mem_of_getElem? (i := 9) rfl))) rfl)⟩
theorem mw_X6_refuse : Mw yX6_refuse cX6_refuse 3 (some .boolean) 2 := ⟨(TTm (List.mem_append_right _ (t1m_1 (List.mem_of_getElem? (i := 2) rfl))) rfl), (TTm (List.mem_append_right _ (t1m_3 (List.mem_of_getElem? (i := 38) rfl))) rfl), by decide +kernel, by decide +kernel, by decide +kernel⟩
theorem mv_X6_refuse : MwV yX6_refuse := ⟨(TTm (List.mem_append_right _ (t1m_3 (List.mem_of_getElem? (i := 37) rfl))) rfl), (TTm (List.mem_append_left _ (List.mem_of_getElem? (i := 5) rfl)) rfl)⟩
theorem mw_X7_append : Mw yX7_append cX7_append 3 none 1 := ⟨(TTm (List.mem_append_right _ (t1m_1 (List.mem_of_getElem? (i := 3) rfl))) rfl), (TTm (List.mem_append_right _ (t1m_2 (List.mem_of_getElem? (i := 115) rfl))) rfl), by decide +kernel, by decide +kernel, by decide +kernel⟩
theorem mv_X7_append : MwV yX7_append := ⟨(TTm (List.mem_append_right _ (t1m_2 (List.mem_of_getElem? (i := 113) rfl))) rfl), (TTm (List.mem_append_right _ (t1m_2 (List.mem_of_getElem? (i := 114) rfl))) rfl)⟩
theorem mw_X7_byteAt : Mw yX7_byteAt cX7_byteAt 2 (some .int) 1 := ⟨(TTm (List.mem_append_right _ (t1m_1 (List.mem_of_getElem? (i := 3) rfl))) rfl), (TTm (List.mem_append_right _ (t1m_3 (List.mem_of_getElem? (i := 30) rfl))) rfl), by decide +kernel, by decide +kernel, by decide +kernel⟩
theorem mv_X7_byteAt : MwV yX7_byteAt := ⟨(TTm (List.mem_append_right _ (t1m_3 (List.mem_of_getElem? (i := 28) rfl))) rfl), (TTm (List.mem_append_right _ (t1m_3 (List.mem_of_getElem? (i := 29) rfl))) rfl)⟩
theorem mw_X7_hasRoom : Mw yX7_hasRoom cX7_hasRoom 1 (some .boolean) 0 := ⟨(TTm (List.mem_append_right _ (t1m_1 (List.mem_of_getElem? (i := 3) rfl))) rfl), (TTm (List.mem_append_right _ (t1m_2 (List.mem_of_getElem? (i := 111) rfl))) rfl), by decide +kernel, by decide +kernel, by decide +kernel⟩
theorem mv_X7_hasRoom : MwV yX7_hasRoom := ⟨(TTm (List.mem_append_right _ (t1m_2 (List.mem_of_getElem? (i := 109) rfl))) rfl), (TTm (List.mem_append_right _ (t1m_2 (List.mem_of_getElem? (i := 110) rfl))) rfl)⟩
theorem mw_X7_shorten : Mw yX7_shorten cX7_shorten 3 (some .boolean) 1 := ⟨(TTm (List.mem_append_right _ (t1m_1 (List.mem_of_getElem? (i := 3) rfl))) rfl), (TTm (List.mem_append_right _ (t1m_2 (List.mem_of_getElem? (i := 123) rfl))) rfl), by decide +kernel, by decide +kernel, by decide +kernel⟩
theorem mv_X7_shorten : MwV yX7_shorten := ⟨(TTm (List.mem_append_right _ (t1m_2 (List.mem_of_getElem? (i := 121) rfl))) rfl), (TTm (List.mem_append_right _ (t1m_2 (List.mem_of_getElem? (i := 122) rfl))) rfl)⟩
theorem mw_X8_doorAt : Mw yX8_doorAt cX8_doorAt 2 (some (.object RX0)) 1 := ⟨(TTm (List.mem_append_right _ (t1m_1 (List.mem_of_getElem? (i := 6) rfl))) rfl), (TTm (List.mem_append_right _ (t1m_3 (List.mem_of_getElem? (i := 115) rfl))) rfl), by decide +kernel, by decide +kernel, by decide +kernel⟩
theorem mv_X8_doorAt : MwV yX8_doorAt := ⟨(TTm (List.mem_append_right _ (t1m_3 (List.mem_of_getElem? (i := 113) rfl))) rfl), (TTm (List.mem_append_right _ (t1m_3 (List.mem_of_getElem? (i := 114) rfl))) rfl)⟩
theorem mw_X8_forgetMadeOf : Mw yX8_forgetMadeOf cX8_forgetMadeOf 3 none 1 := ⟨(TTm (List.mem_append_right _ (t1m_1 (List.mem_of_getElem? (i := 6) rfl))) rfl), (TTm (List.mem_append_right _ (t1m_2 (List.mem_of_getElem? (i := 143) rfl))) rfl), by decide +kernel, by decide +kernel, by decide +kernel⟩
theorem mv_X8_forgetMadeOf : MwV yX8_forgetMadeOf := ⟨(TTm (List.mem_append_right _ (t1m_2 (List.mem_of_getElem? (i := 141) rfl))) rfl), (TTm (List.mem_append_right _ (t1m_2 (List.mem_of_getElem? (i := 142) rfl))) rfl)⟩
theorem mw_X8_logAt : Mw yX8_logAt cX8_logAt 2 (some (.object RX4)) 1 := ⟨(TTm (List.mem_append_right _ (t1m_1 (List.mem_of_getElem? (i := 6) rfl))) rfl), (TTm (List.mem_append_right _ (t1m_2 (List.mem_of_getElem? (i := 155) rfl))) rfl), by decide +kernel, by decide +kernel, by decide +kernel⟩
theorem mv_X8_logAt : MwV yX8_logAt := ⟨(TTm (List.mem_append_right _ (t1m_2 (List.mem_of_getElem? (i := 153) rfl))) rfl), (TTm (List.mem_append_right _ (t1m_2 (List.mem_of_getElem? (i := 154) rfl))) rfl)⟩
theorem mw_X8_makeIn : Mw yX8_makeIn cX8_makeIn 4 (some .boolean) 2 := ⟨(TTm (List.mem_append_right _ (t1m_1 (List.mem_of_getElem? (i := 6) rfl))) rfl), (TTm (List.mem_append_right _ (t1m_3 (List.mem_of_getElem? (i := 230) rfl))) rfl), by decide +kernel, by decide +kernel, by decide +kernel⟩
theorem mv_X8_makeIn : MwV yX8_makeIn := ⟨(TTm (List.mem_append_right _ (t1m_3 (List.mem_of_getElem? (i := 228) rfl))) rfl), (TTm (List.mem_append_right _ (t1m_3 (List.mem_of_getElem? (i := 229) rfl))) rfl)⟩
theorem mw_X8_takeBack : Mw yX8_takeBack cX8_takeBack 3 none 1 := ⟨(TTm (List.mem_append_right _ (t1m_1 (List.mem_of_getElem? (i := 6) rfl))) rfl), (TTm (List.mem_append_right _ (t1m_4 (List.mem_of_getElem? (i := 35) rfl))) rfl), by decide +kernel, by decide +kernel, by decide +kernel⟩
theorem mv_X8_takeBack : MwV yX8_takeBack := ⟨(TTm (List.mem_append_right _ (t1m_4 (List.mem_of_getElem? (i := 33) rfl))) rfl), (TTm (List.mem_append_right _ (t1m_4 (List.mem_of_getElem? (i := 34) rfl))) rfl)⟩
theorem mw_X9_isFrom : Mw yX9_isFrom cX9_isFrom 3 (some .boolean) 3 := ⟨(TTm (List.mem_append_right _ (t1m_1 (List.mem_of_getElem? (i := 1) rfl))) rfl), (TTm (List.mem_append_right _ (t1m_2 (List.mem_of_getElem? (i := 126) rfl))) rfl), by decide +kernel, by decide +kernel, by decide +kernel⟩
theorem ms_X9_isFrom : Cond.static yX9_isFrom ∈ TT := (TTm (List.mem_append_right _ (t1m_2 (List.mem_of_getElem? (i := 125) rfl))) rfl)
