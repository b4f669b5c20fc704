/-! the law: the words of its calls -/
theorem in_X9 : Cond.initialized RX9 ∈ TT := (TTm (List.mem_append_right _ (t1m_1 (List.mem_of_getElem? (i := 1) rfl))) rfl)
theorem in_X10 : Cond.initialized RX10 ∈ TT := (TTm (List.mem_append_right _ (t1m_1 (List.mem_of_getElem? (i := 12) rfl))) rfl)
theorem mwL_X9_feed : Mw yX9_feed cX9_feed 6 (some .int) 5 := ⟨in_X9, (TTm (List.mem_append_right _ (t1m_2 (List.mem_of_getElem? (i := 107) rfl))) rfl), by decide +kernel, by decide +kernel, by decide +kernel⟩
theorem mvL_X9_feed : MwV yX9_feed := ⟨(TTm (List.mem_append_right _ (t1m_2 (List.mem_of_getElem? (i := 105) rfl))) rfl), (TTm (List.mem_append_right _ (t1m_2 (List.mem_of_getElem? (i := 106) rfl))) rfl)⟩
theorem mlL_X9_feed : Cond.methodLink RL 13 yX9_feed ∈ TT := (TTm (List.mem_append_right _ (t1m_2 (List.mem_of_getElem? (i := 104) rfl))) rfl)
theorem mwL_X10_feed : Mw yX10_feed cX10_feed 8 (some .int) 5 := ⟨in_X10, (TTm (List.mem_append_right _ (t1m_5 (List.mem_of_getElem? (i := 82) rfl))) rfl), by decide +kernel, by decide +kernel, by decide +kernel⟩
theorem mvL_X10_feed : MwV yX10_feed := ⟨(TTm (List.mem_append_right _ (t1m_5 (List.mem_of_getElem? (i := 80) rfl))) rfl), (TTm (List.mem_append_right _ (t1m_5 (List.mem_of_getElem? (i := 81) rfl))) rfl)⟩
theorem mlL_X10_feed : Cond.methodLink RL 17 yX10_feed ∈ TT := (TTm (List.mem_append_right _ (t1m_5 (List.mem_of_getElem? (i := 79) rfl))) rfl)
theorem mwL_X9_end : Mw yX9_end cX9_end 2 (some .boolean) 1 := ⟨in_X9, (TTm (List.mem_append_right _ (t1m_2 (List.mem_of_getElem? (i := 119) rfl))) rfl), by decide +kernel, by decide +kernel, by decide +kernel⟩
theorem mvL_X9_end : MwV yX9_end := ⟨(TTm (List.mem_append_right _ (t1m_2 (List.mem_of_getElem? (i := 117) rfl))) rfl), (TTm (List.mem_append_right _ (t1m_2 (List.mem_of_getElem? (i := 118) rfl))) rfl)⟩
theorem mlL_X9_end : Cond.methodLink RL 18 yX9_end ∈ TT := (TTm (List.mem_append_right _ (t1m_2 (List.mem_of_getElem? (i := 116) rfl))) rfl)
theorem mwL_X10_end : Mw yX10_end cX10_end 2 (some .boolean) 1 := ⟨in_X10, (TTm (List.mem_append_right _ (t1m_5 (List.mem_of_getElem? (i := 86) rfl))) rfl), by decide +kernel, by decide +kernel, by decide +kernel⟩
theorem mvL_X10_end : MwV yX10_end := ⟨(TTm (List.mem_append_right _ (t1m_5 (List.mem_of_getElem? (i := 84) rfl))) rfl), (TTm (List.mem_append_right _ (t1m_5 (List.mem_of_getElem? (i := 85) rfl))) rfl)⟩
theorem mlL_X10_end : Cond.methodLink RL 22 yX10_end ∈ TT := (TTm (List.mem_append_right _ (t1m_5 (List.mem_of_getElem? (i := 83) rfl))) rfl)
theorem mwL_X9_log : Mw yX9_log cX9_log 7 (some .boolean) 5 := ⟨in_X9, (TTm (List.mem_append_right _ (t1m_2 (List.mem_of_getElem? (i := 130) rfl))) rfl), by decide +kernel, by decide +kernel, by decide +kernel⟩
theorem mvL_X9_log : MwV yX9_log := ⟨(TTm (List.mem_append_right _ (t1m_2 (List.mem_of_getElem? (i := 128) rfl))) rfl), (TTm (List.mem_append_right _ (t1m_2 (List.mem_of_getElem? (i := 129) rfl))) rfl)⟩
theorem mlL_X9_log : Cond.methodLink RL 23 yX9_log ∈ TT := (TTm (List.mem_append_right _ (t1m_2 (List.mem_of_getElem? (i := 127) rfl))) rfl)
theorem mwL_X10_log : Mw yX10_log cX10_log 7 (some .boolean) 5 := ⟨in_X10, (TTm (List.mem_append_right _ (t1m_5 (List.mem_of_getElem? (i := 20) rfl))) rfl), by decide +kernel, by decide +kernel, by decide +kernel⟩
theorem mvL_X10_log : MwV yX10_log := ⟨(TTm (List.mem_append_right _ (t1m_5 (List.mem_of_getElem? (i := 18) rfl))) rfl), (TTm (List.mem_append_right _ (t1m_5 (List.mem_of_getElem? (i := 19) rfl))) rfl)⟩
theorem mlL_X10_log : Cond.methodLink RL 27 yX10_log ∈ TT := (TTm (List.mem_append_right _ (t1m_5 (List.mem_of_getElem? (i := 17) rfl))) rfl)
theorem mwL_X9_tone : Mw yX9_tone cX9_tone 5 (some .boolean) 3 := ⟨in_X9, (TTm (List.mem_append_right _ (t1m_2 (List.mem_of_getElem? (i := 151) rfl))) rfl), by decide +kernel, by decide +kernel, by decide +kernel⟩
theorem mvL_X9_tone : MwV yX9_tone := ⟨(TTm (List.mem_append_right _ (t1m_2 (List.mem_of_getElem? (i := 149) rfl))) rfl), (TTm (List.mem_append_right _ (t1m_2 (List.mem_of_getElem? (i := 150) rfl))) rfl)⟩
theorem mlL_X9_tone : Cond.methodLink RL 28 yX9_tone ∈ TT := (TTm (List.mem_append_right _ (t1m_2 (List.mem_of_getElem? (i := 148) rfl))) rfl)
theorem mwL_X10_tone : Mw yX10_tone cX10_tone 4 (some .boolean) 3 := ⟨in_X10, (TTm (List.mem_append_right _ (t1m_5 (List.mem_of_getElem? (i := 31) rfl))) rfl), by decide +kernel, by decide +kernel, by decide +kernel⟩
theorem mvL_X10_tone : MwV yX10_tone := ⟨(TTm (List.mem_append_right _ (t1m_5 (List.mem_of_getElem? (i := 29) rfl))) rfl), (TTm (List.mem_append_right _ (t1m_5 (List.mem_of_getElem? (i := 30) rfl))) rfl)⟩
theorem mlL_X10_tone : Cond.methodLink RL 32 yX10_tone ∈ TT := (TTm (List.mem_append_right _ (t1m_5 (List.mem_of_getElem? (i := 28) rfl))) rfl)
theorem mwL_X9_flaw : Mw yX9_flaw cX9_flaw 9 (some .int) 6 := ⟨in_X9, (TTm (List.mem_append_right _ (t1m_2 (List.mem_of_getElem? (i := 160) rfl))) rfl), by decide +kernel, by decide +kernel, by decide +kernel⟩
theorem mvL_X9_flaw : MwV yX9_flaw := ⟨(TTm (List.mem_append_right _ (t1m_2 (List.mem_of_getElem? (i := 158) rfl))) rfl), (TTm (List.mem_append_right _ (t1m_2 (List.mem_of_getElem? (i := 159) rfl))) rfl)⟩
theorem mlL_X9_flaw : Cond.methodLink RL 33 yX9_flaw ∈ TT := (TTm (List.mem_append_right _ (t1m_2 (List.mem_of_getElem? (i := 157) rfl))) rfl)
theorem mwL_X10_flaw : Mw yX10_flaw cX10_flaw 8 (some .int) 6 := ⟨in_X10, (TTm (List.mem_append_right _ (t1m_5 (List.mem_of_getElem? (i := 39) rfl))) rfl), by decide +kernel, by decide +kernel, by decide +kernel⟩
theorem mvL_X10_flaw : MwV yX10_flaw := ⟨(TTm (List.mem_append_right _ (t1m_5 (List.mem_of_getElem? (i := 37) rfl))) rfl), (TTm (List.mem_append_right _ (t1m_5 (List.mem_of_getElem? (i := 38) rfl))) rfl)⟩
theorem mlL_X10_flaw : Cond.methodLink RL 37 yX10_flaw ∈ TT := (TTm (List.mem_append_right _ (t1m_5 (List.mem_of_getElem? (i := 36) rfl))) rfl)
theorem mwL_X9_drift : Mw yX9_drift cX9_drift 6 (some .boolean) 4 := ⟨in_X9, (TTm (List.mem_append_right _ (t1m_2 (List.mem_of_getElem? (i := 205) rfl))) rfl), by decide +kernel, by decide +kernel, by decide +kernel⟩
theorem mvL_X9_drift : MwV yX9_drift := ⟨(TTm (List.mem_append_right _ (t1m_2 (List.mem_of_getElem? (i := 203) rfl))) rfl), (TTm (List.mem_append_right _ (t1m_2 (List.mem_of_getElem? (i := 204) rfl))) rfl)⟩
theorem mlL_X9_drift : Cond.methodLink RL 38 yX9_drift ∈ TT := (TTm (List.mem_append_right _ (t1m_2 (List.mem_of_getElem? (i := 202) rfl))) rfl)
theorem mwL_X10_drift : Mw yX10_drift cX10_drift 6 (some .boolean) 4 := ⟨in_X10, (TTm (List.mem_append_right _ (t1m_5 (List.mem_of_getElem? (i := 47) rfl))) rfl), by decide +kernel, by decide +kernel, by decide +kernel⟩
theorem mvL_X10_drift : MwV yX10_drift := ⟨(TTm (List.mem_append_right _ (t1m_5 (List.mem_of_getElem? (i := 45) rfl))) rfl), (TTm (List.mem_append_right _ (t1m_5 (List.mem_of_getElem? (i := 46) rfl))) rfl)⟩
theorem mlL_X10_drift : Cond.methodLink RL 42 yX10_drift ∈ TT := (TTm (List.mem_append_right _ (t1m_5 (List.mem_of_getElem? (i := 44) rfl))) rfl)
theorem mwL_X9_leaf : Mw yX9_leaf cX9_leaf 5 (some .int) 3 := ⟨in_X9, (TTm (List.mem_append_right _ (t1m_2 (List.mem_of_getElem? (i := 214) rfl))) rfl), by decide +kernel, by decide +kernel, by decide +kernel⟩
theorem mvL_X9_leaf : MwV yX9_leaf := ⟨(TTm (List.mem_append_right _ (t1m_2 (List.mem_of_getElem? (i := 212) rfl))) rfl), (TTm (List.mem_append_right _ (t1m_2 (List.mem_of_getElem? (i := 213) rfl))) rfl)⟩
theorem mlL_X9_leaf : Cond.methodLink RL 43 yX9_leaf ∈ TT := (TTm (List.mem_append_right _ (t1m_2 (List.mem_of_getElem? (i := 211) rfl))) rfl)
theorem mwL_X10_leaf : Mw yX10_leaf cX10_leaf 6 (some .int) 3 := ⟨in_X10, (TTm (List.mem_append_right _ (t1m_5 (List.mem_of_getElem? (i := 51) rfl))) rfl), by decide +kernel, by decide +kernel, by decide +kernel⟩
theorem mvL_X10_leaf : MwV yX10_leaf := ⟨(TTm (List.mem_append_right _ (t1m_5 (List.mem_of_getElem? (i := 49) rfl))) rfl), (TTm (List.mem_append_right _ (t1m_5 (List.mem_of_getElem? (i := 50) rfl))) rfl)⟩
theorem mlL_X10_leaf : Cond.methodLink RL 47 yX10_leaf ∈ TT := (TTm (List.mem_append_right _ (t1m_5 (List.mem_of_getElem? (i := 48) rfl))) rfl)
theorem mwL_X9_hit : Mw yX9_hit cX9_hit 8 (some .int) 6 := ⟨in_X9, (TTm (List.mem_append_right _ (t1m_2 (List.mem_of_getElem? (i := 234) rfl))) rfl), by decide +kernel, by decide +kernel, by decide +kernel⟩
theorem mvL_X9_hit : MwV yX9_hit := ⟨(TTm (List.mem_append_right _ (t1m_2 (List.mem_of_getElem? (i := 232) rfl))) rfl), (TTm (List.mem_append_right _ (t1m_2 (List.mem_of_getElem? (i := 233) rfl))) rfl)⟩
theorem mlL_X9_hit : Cond.methodLink RL 48 yX9_hit ∈ TT := (TTm (List.mem_append_right _ (t1m_2 (List.mem_of_getElem? (i := 231) rfl))) rfl)
theorem mwL_X10_hit : Mw yX10_hit cX10_hit 7 (some .int) 6 := ⟨in_X10, (TTm (List.mem_append_right _ (t1m_5 (List.mem_of_getElem? (i := 70) rfl))) rfl), by decide +kernel, by decide +kernel, by decide +kernel⟩
theorem mvL_X10_hit : MwV yX10_hit := ⟨(TTm (List.mem_append_right _ (t1m_5 (List.mem_of_getElem? (i := 68) rfl))) rfl), (TTm (List.mem_append_right _ (t1m_5 (List.mem_of_getElem? (i := 69) rfl))) rfl)⟩
theorem mlL_X10_hit : Cond.methodLink RL 51 yX10_hit ∈ TT := (TTm (List.mem_append_right _ (t1m_5 (List.mem_of_getElem? (i := 67) rfl))) rfl)
theorem mwL_X9_door : Mw yX9_door cX9_door 8 (some .int) 4 := ⟨in_X9, (TTm (List.mem_append_right _ (t1m_3 (List.mem_of_getElem? (i := 6) rfl))) rfl), by decide +kernel, by decide +kernel, by decide +kernel⟩
theorem mvL_X9_door : MwV yX9_door := ⟨(TTm (List.mem_append_right _ (t1m_3 (List.mem_of_getElem? (i := 4) rfl))) rfl), (TTm (List.mem_append_right _ (t1m_3 (List.mem_of_getElem? (i := 5) rfl))) rfl)⟩
theorem mlL_X9_door : Cond.methodLink RL 52 yX9_door ∈ TT := (TTm (List.mem_append_right _ (t1m_3 (List.mem_of_getElem? (i := 3) rfl))) rfl)
theorem mwL_X10_door : Mw yX10_door cX10_door 6 (some .int) 4 := ⟨in_X10, (TTm (List.mem_append_right _ (t1m_5 (List.mem_of_getElem? (i := 90) rfl))) rfl), by decide +kernel, by decide +kernel, by decide +kernel⟩
theorem mvL_X10_door : MwV yX10_door := ⟨(TTm (List.mem_append_right _ (t1m_5 (List.mem_of_getElem? (i := 88) rfl))) rfl), (TTm (List.mem_append_right _ (t1m_5 (List.mem_of_getElem? (i := 89) rfl))) rfl)⟩
theorem mlL_X10_door : Cond.methodLink RL 56 yX10_door ∈ TT := (TTm (List.mem_append_right _ (t1m_5 (List.mem_of_getElem? (i := 87) rfl))) rfl)
theorem mwL_X9_fault : Mw yX9_fault cX9_fault 2 (some .int) 1 := ⟨in_X9, (TTm (List.mem_append_right _ (t1m_3 (List.mem_of_getElem? (i := 107) rfl))) rfl), by decide +kernel, by decide +kernel, by decide +kernel⟩
theorem mvL_X9_fault : MwV yX9_fault := ⟨(TTm (List.mem_append_right _ (t1m_3 (List.mem_of_getElem? (i := 105) rfl))) rfl), (TTm (List.mem_append_right _ (t1m_3 (List.mem_of_getElem? (i := 106) rfl))) rfl)⟩
theorem mlL_X9_fault : Cond.methodLink RL 57 yX9_fault ∈ TT := (TTm (List.mem_append_right _ (t1m_3 (List.mem_of_getElem? (i := 104) rfl))) rfl)
theorem mwL_X10_fault : Mw yX10_fault cX10_fault 2 (some .int) 1 := ⟨in_X10, (TTm (List.mem_append_right _ (t1m_5 (List.mem_of_getElem? (i := 138) rfl))) rfl), by decide +kernel, by decide +kernel, by decide +kernel⟩
theorem mvL_X10_fault : MwV yX10_fault := ⟨(TTm (List.mem_append_right _ (t1m_5 (List.mem_of_getElem? (i := 136) rfl))) rfl), (TTm (List.mem_append_right _ (t1m_5 (List.mem_of_getElem? (i := 137) rfl))) rfl)⟩
theorem mlL_X10_fault : Cond.methodLink RL 61 yX10_fault ∈ TT := (TTm (List.mem_append_right _ (t1m_5 (List.mem_of_getElem? (i := 135) rfl))) rfl)
theorem mwL_X9_of : Mw yX9_of cX9_of 4 (some .int) 2 := ⟨in_X9, (TTm (List.mem_append_right _ (t1m_3 (List.mem_of_getElem? (i := 111) rfl))) rfl), by decide +kernel, by decide +kernel, by decide +kernel⟩
theorem mvL_X9_of : MwV yX9_of := ⟨(TTm (List.mem_append_right _ (t1m_3 (List.mem_of_getElem? (i := 109) rfl))) rfl), (TTm (List.mem_append_right _ (t1m_3 (List.mem_of_getElem? (i := 110) rfl))) rfl)⟩
theorem mlL_X9_of : Cond.methodLink RL 62 yX9_of ∈ TT := (TTm (List.mem_append_right _ (t1m_3 (List.mem_of_getElem? (i := 108) rfl))) rfl)
theorem mwL_X10_of : Mw yX10_of cX10_of 4 (some .int) 2 := ⟨in_X10, (TTm (List.mem_append_right _ (t1m_5 (List.mem_of_getElem? (i := 157) rfl))) rfl), by decide +kernel, by decide +kernel, by decide +kernel⟩
theorem mvL_X10_of : MwV yX10_of := ⟨(TTm (List.mem_append_right _ (t1m_5 (List.mem_of_getElem? (i := 155) rfl))) rfl), (TTm (List.mem_append_right _ (t1m_5 (List.mem_of_getElem? (i := 156) rfl))) rfl)⟩
theorem mlL_X10_of : Cond.methodLink RL 66 yX10_of ∈ TT := (TTm (List.mem_append_right _ (t1m_5 (List.mem_of_getElem? (i := 154) rfl))) rfl)
theorem mwL_X9_piece : Mw yX9_piece cX9_piece 5 (some .int) 3 := ⟨in_X9, (TTm (List.mem_append_right _ (t1m_3 (List.mem_of_getElem? (i := 144) rfl))) rfl), by decide +kernel, by decide +kernel, by decide +kernel⟩
theorem mvL_X9_piece : MwV yX9_piece := ⟨(TTm (List.mem_append_right _ (t1m_3 (List.mem_of_getElem? (i := 142) rfl))) rfl), (TTm (List.mem_append_right _ (t1m_3 (List.mem_of_getElem? (i := 143) rfl))) rfl)⟩
theorem mlL_X9_piece : Cond.methodLink RL 67 yX9_piece ∈ TT := (TTm (List.mem_append_right _ (t1m_3 (List.mem_of_getElem? (i := 141) rfl))) rfl)
theorem mwL_X10_piece : Mw yX10_piece cX10_piece 4 (some .int) 3 := ⟨in_X10, (TTm (List.mem_append_right _ (t1m_5 (List.mem_of_getElem? (i := 170) rfl))) rfl), by decide +kernel, by decide +kernel, by decide +kernel⟩
theorem mvL_X10_piece : MwV yX10_piece := ⟨(TTm (List.mem_append_right _ (t1m_5 (List.mem_of_getElem? (i := 168) rfl))) rfl), (TTm (List.mem_append_right _ (t1m_5 (List.mem_of_getElem? (i := 169) rfl))) rfl)⟩
theorem mlL_X10_piece : Cond.methodLink RL 70 yX10_piece ∈ TT := (TTm (List.mem_append_right _ (t1m_5 (List.mem_of_getElem? (i := 167) rfl))) rfl)
theorem mwL_X9_joint : Mw yX9_joint cX9_joint 6 (some .int) 4 := ⟨in_X9, (TTm (List.mem_append_right _ (t1m_3 (List.mem_of_getElem? (i := 150) rfl))) rfl), by decide +kernel, by decide +kernel, by decide +kernel⟩
theorem mvL_X9_joint : MwV yX9_joint := ⟨(TTm (List.mem_append_right _ (t1m_3 (List.mem_of_getElem? (i := 148) rfl))) rfl), (TTm (List.mem_append_right _ (t1m_3 (List.mem_of_getElem? (i := 149) rfl))) rfl)⟩
theorem mlL_X9_joint : Cond.methodLink RL 71 yX9_joint ∈ TT := (TTm (List.mem_append_right _ (t1m_3 (List.mem_of_getElem? (i := 147) rfl))) rfl)
theorem mwL_X10_joint : Mw yX10_joint cX10_joint 5 (some .int) 4 := ⟨in_X10, (TTm (List.mem_append_right _ (t1m_5 (List.mem_of_getElem? (i := 142) rfl))) rfl), by decide +kernel, by decide +kernel, by decide +kernel⟩
theorem mvL_X10_joint : MwV yX10_joint := ⟨(TTm (List.mem_append_right _ (t1m_5 (List.mem_of_getElem? (i := 140) rfl))) rfl), (TTm (List.mem_append_right _ (t1m_5 (List.mem_of_getElem? (i := 141) rfl))) rfl)⟩
theorem mlL_X10_joint : Cond.methodLink RL 75 yX10_joint ∈ TT := (TTm (List.mem_append_right _ (t1m_5 (List.mem_of_getElem? (i := 139) rfl))) rfl)
theorem mwL_X9_same : Mw yX9_same cX9_same 6 (some .int) 3 := ⟨in_X9, (TTm (List.mem_append_right _ (t1m_3 (List.mem_of_getElem? (i := 155) rfl))) rfl), by decide +kernel, by decide +kernel, by decide +kernel⟩
theorem mvL_X9_same : MwV yX9_same := ⟨(TTm (List.mem_append_right _ (t1m_3 (List.mem_of_getElem? (i := 153) rfl))) rfl), (TTm (List.mem_append_right _ (t1m_3 (List.mem_of_getElem? (i := 154) rfl))) rfl)⟩
theorem mlL_X9_same : Cond.methodLink RL 76 yX9_same ∈ TT := (TTm (List.mem_append_right _ (t1m_3 (List.mem_of_getElem? (i := 152) rfl))) rfl)
theorem mwL_X10_same : Mw yX10_same cX10_same 6 (some .int) 3 := ⟨in_X10, (TTm (List.mem_append_right _ (t1m_5 (List.mem_of_getElem? (i := 174) rfl))) rfl), by decide +kernel, by decide +kernel, by decide +kernel⟩
theorem mvL_X10_same : MwV yX10_same := ⟨(TTm (List.mem_append_right _ (t1m_5 (List.mem_of_getElem? (i := 172) rfl))) rfl), (TTm (List.mem_append_right _ (t1m_5 (List.mem_of_getElem? (i := 173) rfl))) rfl)⟩
theorem mlL_X10_same : Cond.methodLink RL 79 yX10_same ∈ TT := (TTm (List.mem_append_right _ (t1m_5 (List.mem_of_getElem? (i := 171) rfl))) rfl)
theorem mwL_X9_why : Mw yX9_why cX9_why 8 (some .int) 5 := ⟨in_X9, (TTm (List.mem_append_right _ (t1m_3 (List.mem_of_getElem? (i := 163) rfl))) rfl), by decide +kernel, by decide +kernel, by decide +kernel⟩
theorem mvL_X9_why : MwV yX9_why := ⟨(TTm (List.mem_append_right _ (t1m_3 (List.mem_of_getElem? (i := 161) rfl))) rfl), (TTm (List.mem_append_right _ (t1m_3 (List.mem_of_getElem? (i := 162) rfl))) rfl)⟩
theorem mlL_X9_why : Cond.methodLink RL 80 yX9_why ∈ TT := (TTm (List.mem_append_right _ (t1m_3 (List.mem_of_getElem? (i := 160) rfl))) rfl)
theorem mwL_X10_why : Mw yX10_why cX10_why 13 (some .int) 5 := ⟨in_X10, (TTm (List.mem_append_right _ (t1m_5 (List.mem_of_getElem? (i := 178) rfl))) rfl), by decide +kernel, by decide +kernel, by decide +kernel⟩
theorem mvL_X10_why : MwV yX10_why := ⟨(TTm (List.mem_append_right _ (t1m_5 (List.mem_of_getElem? (i := 176) rfl))) rfl), (TTm (List.mem_append_right _ (t1m_5 (List.mem_of_getElem? (i := 177) rfl))) rfl)⟩
theorem mlL_X10_why : Cond.methodLink RL 83 yX10_why ∈ TT := (TTm (List.mem_append_right _ (t1m_5 (List.mem_of_getElem? (i := 175) rfl))) rfl)
theorem mwL_X9_place : Mw yX9_place cX9_place 7 (some .int) 3 := ⟨in_X9, (TTm (List.mem_append_right _ (t1m_3 (List.mem_of_getElem? (i := 193) rfl))) rfl), by decide +kernel, by decide +kernel, by decide +kernel⟩
theorem mvL_X9_place : MwV yX9_place := ⟨(TTm (List.mem_append_right _ (t1m_3 (List.mem_of_getElem? (i := 191) rfl))) rfl), (TTm (List.mem_append_right _ (t1m_3 (List.mem_of_getElem? (i := 192) rfl))) rfl)⟩
theorem mlL_X9_place : Cond.methodLink RL 84 yX9_place ∈ TT := (TTm (List.mem_append_right _ (t1m_3 (List.mem_of_getElem? (i := 190) rfl))) rfl)
theorem mwL_X10_place : Mw yX10_place cX10_place 4 (some .int) 3 := ⟨in_X10, (TTm (List.mem_append_right _ (t1m_5 (List.mem_of_getElem? (i := 190) rfl))) rfl), by decide +kernel, by decide +kernel, by decide +kernel⟩
theorem mvL_X10_place : MwV yX10_place := ⟨(TTm (List.mem_append_right _ (t1m_5 (List.mem_of_getElem? (i := 188) rfl))) rfl), (TTm (List.mem_append_right _ (t1m_5 (List.mem_of_getElem? (i := 189) rfl))) rfl)⟩
theorem mlL_X10_place : Cond.methodLink RL 87 yX10_place ∈ TT := (TTm (List.mem_append_right _ (t1m_5 (List.mem_of_getElem? (i := 187) rfl))) rfl)
theorem mwL_X9_make : Mw yX9_make cX9_make 4 (some .int) 2 := ⟨in_X9, (TTm (List.mem_append_right _ (t1m_3 (List.mem_of_getElem? (i := 222) rfl))) rfl), by decide +kernel, by decide +kernel, by decide +kernel⟩
theorem mvL_X9_make : MwV yX9_make := ⟨(TTm (List.mem_append_right _ (t1m_3 (List.mem_of_getElem? (i := 220) rfl))) rfl), (TTm (List.mem_append_right _ (t1m_3 (List.mem_of_getElem? (i := 221) rfl))) rfl)⟩
theorem mlL_X9_make : Cond.methodLink RL 88 yX9_make ∈ TT := (TTm (List.mem_append_right _ (t1m_3 (List.mem_of_getElem? (i := 219) rfl))) rfl)
theorem mwL_X10_make : Mw yX10_make cX10_make 3 (some .int) 2 := ⟨in_X10, (TTm (List.mem_append_right _ (t1m_5 (List.mem_of_getElem? (i := 210) rfl))) rfl), by decide +kernel, by decide +kernel, by decide +kernel⟩
theorem mvL_X10_make : MwV yX10_make := ⟨(TTm (List.mem_append_right _ (t1m_5 (List.mem_of_getElem? (i := 208) rfl))) rfl), (TTm (List.mem_append_right _ (t1m_5 (List.mem_of_getElem? (i := 209) rfl))) rfl)⟩
theorem mlL_X10_make : Cond.methodLink RL 91 yX10_make ∈ TT := (TTm (List.mem_append_right _ (t1m_5 (List.mem_of_getElem? (i := 207) rfl))) rfl)
theorem mwL_X9_plan : Mw yX9_plan cX9_plan 1 (some .int) 0 := ⟨in_X9, (TTm (List.mem_append_right _ (t1m_4 (List.mem_of_getElem? (i := 10) rfl))) rfl), by decide +kernel, by decide +kernel, by decide +kernel⟩
theorem mvL_X9_plan : MwV yX9_plan := ⟨(TTm (List.mem_append_right _ (t1m_4 (List.mem_of_getElem? (i := 8) rfl))) rfl), (TTm (List.mem_append_right _ (t1m_4 (List.mem_of_getElem? (i := 9) rfl))) rfl)⟩
theorem mlL_X9_plan : Cond.methodLink RL 92 yX9_plan ∈ TT := (TTm (List.mem_append_right _ (t1m_4 (List.mem_of_getElem? (i := 7) rfl))) rfl)
theorem mwL_X10_plan : Mw yX10_plan cX10_plan 8 (some .int) 0 := ⟨in_X10, (TTm (List.mem_append_right _ (t1m_5 (List.mem_of_getElem? (i := 218) rfl))) rfl), by decide +kernel, by decide +kernel, by decide +kernel⟩
theorem mvL_X10_plan : MwV yX10_plan := ⟨(TTm (List.mem_append_right _ (t1m_5 (List.mem_of_getElem? (i := 216) rfl))) rfl), (TTm (List.mem_append_right _ (t1m_5 (List.mem_of_getElem? (i := 217) rfl))) rfl)⟩
theorem mlL_X10_plan : Cond.methodLink RL 96 yX10_plan ∈ TT := (TTm (List.mem_append_right _ (t1m_5 (List.mem_of_getElem? (i := 215) rfl))) rfl)
theorem mwL_X9_planned : Mw yX9_planned cX9_planned 2 (some .int) 1 := ⟨in_X9, (TTm (List.mem_append_right _ (t1m_4 (List.mem_of_getElem? (i := 43) rfl))) rfl), by decide +kernel, by decide +kernel, by decide +kernel⟩
theorem mvL_X9_planned : MwV yX9_planned := ⟨(TTm (List.mem_append_right _ (t1m_4 (List.mem_of_getElem? (i := 41) rfl))) rfl), (TTm (List.mem_append_right _ (t1m_4 (List.mem_of_getElem? (i := 42) rfl))) rfl)⟩
theorem mlL_X9_planned : Cond.methodLink RL 97 yX9_planned ∈ TT := (TTm (List.mem_append_right _ (t1m_4 (List.mem_of_getElem? (i := 40) rfl))) rfl)
theorem mwL_X10_planned : Mw yX10_planned cX10_planned 2 (some .int) 1 := ⟨in_X10, (TTm (List.mem_append_right _ (t1m_5 (List.mem_of_getElem? (i := 230) rfl))) rfl), by decide +kernel, by decide +kernel, by decide +kernel⟩
theorem mvL_X10_planned : MwV yX10_planned := ⟨(TTm (List.mem_append_right _ (t1m_5 (List.mem_of_getElem? (i := 228) rfl))) rfl), (TTm (List.mem_append_right _ (t1m_5 (List.mem_of_getElem? (i := 229) rfl))) rfl)⟩
theorem mlL_X10_planned : Cond.methodLink RL 100 yX10_planned ∈ TT := (TTm (List.mem_append_right _ (t1m_5 (List.mem_of_getElem? (i := 227) rfl))) rfl)
theorem mwL_X9_free : Mw yX9_free cX9_free 3 (some .boolean) 1 := ⟨in_X9, (TTm (List.mem_append_right _ (t1m_4 (List.mem_of_getElem? (i := 47) rfl))) rfl), by decide +kernel, by decide +kernel, by decide +kernel⟩
theorem mvL_X9_free : MwV yX9_free := ⟨(TTm (List.mem_append_right _ (t1m_4 (List.mem_of_getElem? (i := 45) rfl))) rfl), (TTm (List.mem_append_right _ (t1m_4 (List.mem_of_getElem? (i := 46) rfl))) rfl)⟩
theorem mlL_X9_free : Cond.methodLink RL 101 yX9_free ∈ TT := (TTm (List.mem_append_right _ (t1m_4 (List.mem_of_getElem? (i := 44) rfl))) rfl)
theorem mwL_X10_free : Mw yX10_free cX10_free 2 (some .boolean) 1 := ⟨in_X10, (TTm (List.mem_append_right _ (t1m_5 (List.mem_of_getElem? (i := 234) rfl))) rfl), by decide +kernel, by decide +kernel, by decide +kernel⟩
theorem mvL_X10_free : MwV yX10_free := ⟨(TTm (List.mem_append_right _ (t1m_5 (List.mem_of_getElem? (i := 232) rfl))) rfl), (TTm (List.mem_append_right _ (t1m_5 (List.mem_of_getElem? (i := 233) rfl))) rfl)⟩
theorem mlL_X10_free : Cond.methodLink RL 104 yX10_free ∈ TT := (TTm (List.mem_append_right _ (t1m_5 (List.mem_of_getElem? (i := 231) rfl))) rfl)
theorem mlL_X9_init : Cond.methodLink RL 9 yX9_init ∈ TT := (TTm (List.mem_append_right _ (t1m_1 (List.mem_of_getElem? (i := 18) rfl))) rfl)
theorem mlL_X10_init : Cond.methodLink RL 12 yX10_init ∈ TT := (TTm (List.mem_append_right _ (t1m_4 (List.mem_of_getElem? (i := 51) rfl))) rfl)
theorem nw_L_7 : NwC RL 7 9 := ⟨RX9, TX9, tyX9, rfl, iw_X9, tyX9_ok, by decide +kernel, by decide +kernel, by decide +kernel, by decide +kernel, by decide⟩
theorem nw_L_10 : NwC RL 10 10 := ⟨RX10, TX10, tyX10, rfl, iw_X10, tyX10_ok, by decide +kernel, by decide +kernel, by decide +kernel, by decide +kernel, by decide⟩
