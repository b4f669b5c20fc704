set_option maxHeartbeats 4000000 in
set_option maxRecDepth 100000 in
theorem g_X10_draws_L18 {X : Cx} (hX : Fx X cX10_draws RX10 3) (hL : (xV X).2.2.2 = lyM) (hn : xn X = 4) {μZ : Mem} (hR : Rt X none μZ none)   {K : Mem → Option (Mem)} (hK : ∀  (μ : Mem), K μ = some μZ → Gd X 253 [] [] μ) : ∀ (n : Nat) (v1 : Int32) (v2 : Int32) (μ : Mem), f_X10_draws_L18  K n v1 v2 μ = some μZ → Gd X 18 [(0, .ref (evA (xV X) 0)), (1, .int v1), (2, .int v2)] [] μ := by
  intro n
  induction n with
  | zero => intro _ _ _ h; rw [f_X10_draws_L18] at h; cases h
  | succ n ih =>
    intro v1 v2 μ h
    rw [f_X10_draws_L18] at h
    refine so_iload_n (pc := 18) hX dX10_draws_18 2 rfl ?_
    refine so_if_eq (pc := 19) hX 253 dX10_draws_19 (by decide) (fun hc2 => ?_) (fun hc2 => ?_)
    · have h := ip hc2 h
      refine so_sub (pc := 253) (lv' := []) [] rfl ?_
      exact hK _ h
    · have h := iq hc2 h
      refine so_aload_n (pc := 22) hX dX10_draws_22 0 rfl ?_
      refine so_gI (pc := 23) hX dX10_draws_23 fl_X10_212 (ekM hL rfl) ?_
      refine so_if_ne (pc := 26) hX 253 dX10_draws_26 (by decide) (fun hc3 => ?_) (fun hc3 => ?_)
      · have h := iq hc3 h
        refine so_sub (pc := 253) (lv' := []) [] rfl ?_
        exact hK _ h
      · have h := ip hc3 h
        refine so_iload_n (pc := 29) hX dX10_draws_29 1 rfl ?_
        refine so_if_eq (pc := 30) hX 52 dX10_draws_30 (by decide) (fun hc4 => ?_) (fun hc4 => ?_)
        · have h := ip hc4 h
          refine so_aload_n (pc := 52) hX dX10_draws_52 0 rfl ?_
          obtain ⟨r6, μ5, hr, h⟩ := obd h
          refine so_callV (As := []) (rest := []) (pc := 53) hX dX10_draws_53 (c_X10_next hL hr) mw_X10_next mv_X10_next ml_X10_246 (ekM hL rfl) (by decide) rfl rfl rfl rfl (by omega) (by decide) (Nat.le_of_ble_eq_true rfl) ?_
          refine so_istore_n (pc := 56) hX dX10_draws_56 [(3, .int r6), (0, .ref (evA (xV X) 0)), (1, .int v1), (2, .int v2)] (by rw [hn]; decide) rfl ?_
          refine so_iload_n (pc := 57) hX dX10_draws_57 0 rfl ?_
          refine so_bipush (v := (47 : Int32)) (pc := 58) hX dX10_draws_58 (by decide) ?_
          refine so_icmp_ne (pc := 60) hX 91 dX10_draws_60 (by decide) (fun hc7 => ?_) (fun hc7 => ?_)
          · have h := iq hc7 h
            refine so_aload_n (pc := 91) hX dX10_draws_91 1 rfl ?_
            obtain ⟨μ9, hr, h⟩ := ob h
            refine so_callV (As := []) (rest := []) (pc := 92) hX dX10_draws_92 (c_X10_ends hL hr) mw_X10_ends mv_X10_ends ml_X10_264 (ekM hL rfl) (by decide) rfl rfl rfl rfl (by omega) (by decide) (Nat.le_of_ble_eq_true rfl) ?_
            refine so_aload_n (pc := 95) hX dX10_draws_95 1 rfl ?_
            refine so_gI (pc := 96) hX dX10_draws_96 fl_X10_212 (ekM hL rfl) ?_
            refine so_if_ne (pc := 99) hX 153 dX10_draws_99 (by decide) (fun hc10 => ?_) (fun hc10 => ?_)
            · have h := iq hc10 h
              refine so_aload_n (pc := 153) hX dX10_draws_153 1 rfl ?_
              refine so_gI (pc := 154) hX dX10_draws_154 fl_X10_212 (ekM hL rfl) ?_
              refine so_if_eq (pc := 157) hX 163 dX10_draws_157 (by decide) (fun hz => absurd hz hc10) (fun _ => ?_)
              refine so_goto (pc := 160) hX 18 dX10_draws_160 (by decide) ?_
              refine so_sub (pc := 18) (lv' := [(0, .ref (evA (xV X) 0)), (1, .int v1), (2, .int v2)]) [1, 2, 3] rfl ?_
              exact ih _ _ _ h
            · have h := ip hc10 h
              refine so_iload_n (pc := 102) hX dX10_draws_102 0 rfl ?_
              refine so_bipush (v := (124 : Int32)) (pc := 103) hX dX10_draws_103 (by decide) ?_
              refine so_icmp_eq (pc := 105) hX 119 dX10_draws_105 (by decide) (fun hc11 => ?_) (fun hc11 => ?_)
              · have h := ip hc11 h
                refine so_iload_n (pc := 119) hX dX10_draws_119 0 rfl ?_
                refine so_bipush (v := (41 : Int32)) (pc := 120) hX dX10_draws_120 (by decide) ?_
                refine so_icmp_ne (pc := 122) hX 132 dX10_draws_122 (by decide) (fun hc12 => ?_) (fun hc12 => ?_)
                · have h := iq hc12 h
                  refine so_iload_n (pc := 132) hX dX10_draws_132 0 rfl ?_
                  refine so_iconst (v := (-1 : Int32)) (pc := 133) hX dX10_draws_133 (by decide) ?_
                  refine so_icmp_ne (pc := 134) hX 153 dX10_draws_134 (by decide) (fun hc24 => ?_) (fun hc24 => ?_)
                  · have h := iq hc24 h
                    refine so_aload_n (pc := 153) hX dX10_draws_153 1 rfl ?_
                    refine so_gI (pc := 154) hX dX10_draws_154 fl_X10_212 (ekM hL rfl) ?_
                    refine so_if_eq (pc := 157) hX 163 dX10_draws_157 (by decide) (fun _ => ?_) (fun hz => absurd hc10 hz)
                    refine so_iload_n (pc := 163) hX dX10_draws_163 0 rfl ?_
                    refine so_bipush (v := (124 : Int32)) (pc := 164) hX dX10_draws_164 (by decide) ?_
                    refine so_icmp_ne (pc := 166) hX 197 dX10_draws_166 (by decide) (fun hz => absurd hc11 hz) (fun _ => ?_)
                    refine so_aload_n (pc := 169) hX dX10_draws_169 1 rfl ?_
                    refine so_gR (pc := 170) hX 33 dX10_draws_170 fl_X10_110 (ekM hL rfl) (erM hL rfl) ?_
                    refine so_aload_n (pc := 173) hX dX10_draws_173 1 rfl ?_
                    refine so_gI (pc := 174) hX dX10_draws_174 fl_X10_224 (ekM hL rfl) ?_
                    refine so_aload_n (pc := 177) hX dX10_draws_177 1 rfl ?_
                    refine so_gI (pc := 178) hX dX10_draws_178 fl_X10_218 (ekM hL rfl) ?_
                    obtain ⟨μ30, hr, h⟩ := ob h
                    refine so_iast (pc := 181) hX dX10_draws_181 (ekM hL rfl) (elM hL rfl) hr ?_
                    refine so_aload_n (pc := 182) hX dX10_draws_182 1 rfl ?_
                    refine so_dup (pc := 183) hX dX10_draws_183 rfl ?_
                    refine so_gI (pc := 184) hX dX10_draws_184 fl_X10_218 (ekM hL rfl) ?_
                    refine so_iconst (v := (1 : Int32)) (pc := 187) hX dX10_draws_187 (by decide) ?_
                    refine so_iadd (pc := 188) hX dX10_draws_188 ?_
                    refine so_pI (pc := 189) hX dX10_draws_189 fl_X10_218 fw_10_26 (ekM hL rfl) rfl rfl ?_
                    refine so_iconst (v := (1 : Int32)) (pc := 192) hX dX10_draws_192 (by decide) ?_
                    refine so_istore_n (pc := 193) hX dX10_draws_193 [(1, .int (1 : Int32)), (3, .int r6), (0, .ref (evA (xV X) 0)), (2, .int v2)] (by rw [hn]; decide) rfl ?_
                    refine so_goto (pc := 194) hX 250 dX10_draws_194 (by decide) ?_
                    refine so_goto (pc := 250) hX 18 dX10_draws_250 (by decide) ?_
                    refine so_sub (pc := 18) (lv' := [(0, .ref (evA (xV X) 0)), (1, .int (1 : Int32)), (2, .int v2)]) [2, 0, 3] rfl ?_
                    exact ih _ _ _ h
                  · have h := ip hc24 h
                    refine so_aload_n (pc := 137) hX dX10_draws_137 1 rfl ?_
                    refine so_gI (pc := 138) hX dX10_draws_138 fl_X10_224 (ekM hL rfl) ?_
                    refine so_if_le (pc := 141) hX 153 dX10_draws_141 (by decide) (fun hc25 => ?_) (fun hc25 => ?_)
                    · have h := ip hc25 h
                      refine so_aload_n (pc := 153) hX dX10_draws_153 1 rfl ?_
                      refine so_gI (pc := 154) hX dX10_draws_154 fl_X10_212 (ekM hL rfl) ?_
                      refine so_if_eq (pc := 157) hX 163 dX10_draws_157 (by decide) (fun _ => ?_) (fun hz => absurd hc10 hz)
                      refine so_iload_n (pc := 163) hX dX10_draws_163 0 rfl ?_
                      refine so_bipush (v := (124 : Int32)) (pc := 164) hX dX10_draws_164 (by decide) ?_
                      refine so_icmp_ne (pc := 166) hX 197 dX10_draws_166 (by decide) (fun hz => absurd hc11 hz) (fun _ => ?_)
                      refine so_aload_n (pc := 169) hX dX10_draws_169 1 rfl ?_
                      refine so_gR (pc := 170) hX 33 dX10_draws_170 fl_X10_110 (ekM hL rfl) (erM hL rfl) ?_
                      refine so_aload_n (pc := 173) hX dX10_draws_173 1 rfl ?_
                      refine so_gI (pc := 174) hX dX10_draws_174 fl_X10_224 (ekM hL rfl) ?_
                      refine so_aload_n (pc := 177) hX dX10_draws_177 1 rfl ?_
                      refine so_gI (pc := 178) hX dX10_draws_178 fl_X10_218 (ekM hL rfl) ?_
                      obtain ⟨μ26, hr, h⟩ := ob h
                      refine so_iast (pc := 181) hX dX10_draws_181 (ekM hL rfl) (elM hL rfl) hr ?_
                      refine so_aload_n (pc := 182) hX dX10_draws_182 1 rfl ?_
                      refine so_dup (pc := 183) hX dX10_draws_183 rfl ?_
                      refine so_gI (pc := 184) hX dX10_draws_184 fl_X10_218 (ekM hL rfl) ?_
                      refine so_iconst (v := (1 : Int32)) (pc := 187) hX dX10_draws_187 (by decide) ?_
                      refine so_iadd (pc := 188) hX dX10_draws_188 ?_
                      refine so_pI (pc := 189) hX dX10_draws_189 fl_X10_218 fw_10_26 (ekM hL rfl) rfl rfl ?_
                      refine so_iconst (v := (1 : Int32)) (pc := 192) hX dX10_draws_192 (by decide) ?_
                      refine so_istore_n (pc := 193) hX dX10_draws_193 [(1, .int (1 : Int32)), (3, .int r6), (0, .ref (evA (xV X) 0)), (2, .int v2)] (by rw [hn]; decide) rfl ?_
                      refine so_goto (pc := 194) hX 250 dX10_draws_194 (by decide) ?_
                      refine so_goto (pc := 250) hX 18 dX10_draws_250 (by decide) ?_
                      refine so_sub (pc := 18) (lv' := [(0, .ref (evA (xV X) 0)), (1, .int (1 : Int32)), (2, .int v2)]) [2, 0, 3] rfl ?_
                      exact ih _ _ _ h
                    · have h := iq hc25 h
                      refine so_aload_n (pc := 144) hX dX10_draws_144 1 rfl ?_
                      refine so_iconst (v := (1 : Int32)) (pc := 145) hX dX10_draws_145 (by decide) ?_
                      refine so_aload_n (pc := 146) hX dX10_draws_146 1 rfl ?_
                      refine so_gI (pc := 147) hX dX10_draws_147 fl_X10_218 (ekM hL rfl) ?_
                      obtain ⟨μ27, hr, h⟩ := ob h
                      refine so_callV (As := [.int (1 : Int32), .int (μ9.1 0 26)]) (rest := []) (pc := 150) hX dX10_draws_150 (c_X10_fail hL hr) mw_X10_fail mv_X10_fail ml_X10_230 (ekM hL rfl) (by decide) rfl rfl rfl rfl (by omega) (by decide) (Nat.le_of_ble_eq_true rfl) ?_
                      refine so_aload_n (pc := 153) hX dX10_draws_153 1 rfl ?_
                      refine so_gI (pc := 154) hX dX10_draws_154 fl_X10_212 (ekM hL rfl) ?_
                      refine so_if_eq (pc := 157) hX 163 dX10_draws_157 (by decide) (fun hc28 => ?_) (fun hc28 => ?_)
                      · have h := ip hc28 h
                        refine so_iload_n (pc := 163) hX dX10_draws_163 0 rfl ?_
                        refine so_bipush (v := (124 : Int32)) (pc := 164) hX dX10_draws_164 (by decide) ?_
                        refine so_icmp_ne (pc := 166) hX 197 dX10_draws_166 (by decide) (fun hz => absurd hc11 hz) (fun _ => ?_)
                        refine so_aload_n (pc := 169) hX dX10_draws_169 1 rfl ?_
                        refine so_gR (pc := 170) hX 33 dX10_draws_170 fl_X10_110 (ekM hL rfl) (erM hL rfl) ?_
                        refine so_aload_n (pc := 173) hX dX10_draws_173 1 rfl ?_
                        refine so_gI (pc := 174) hX dX10_draws_174 fl_X10_224 (ekM hL rfl) ?_
                        refine so_aload_n (pc := 177) hX dX10_draws_177 1 rfl ?_
                        refine so_gI (pc := 178) hX dX10_draws_178 fl_X10_218 (ekM hL rfl) ?_
                        obtain ⟨μ29, hr, h⟩ := ob h
                        refine so_iast (pc := 181) hX dX10_draws_181 (ekM hL rfl) (elM hL rfl) hr ?_
                        refine so_aload_n (pc := 182) hX dX10_draws_182 1 rfl ?_
                        refine so_dup (pc := 183) hX dX10_draws_183 rfl ?_
                        refine so_gI (pc := 184) hX dX10_draws_184 fl_X10_218 (ekM hL rfl) ?_
                        refine so_iconst (v := (1 : Int32)) (pc := 187) hX dX10_draws_187 (by decide) ?_
                        refine so_iadd (pc := 188) hX dX10_draws_188 ?_
                        refine so_pI (pc := 189) hX dX10_draws_189 fl_X10_218 fw_10_26 (ekM hL rfl) rfl rfl ?_
                        refine so_iconst (v := (1 : Int32)) (pc := 192) hX dX10_draws_192 (by decide) ?_
                        refine so_istore_n (pc := 193) hX dX10_draws_193 [(1, .int (1 : Int32)), (3, .int r6), (0, .ref (evA (xV X) 0)), (2, .int v2)] (by rw [hn]; decide) rfl ?_
                        refine so_goto (pc := 194) hX 250 dX10_draws_194 (by decide) ?_
                        refine so_goto (pc := 250) hX 18 dX10_draws_250 (by decide) ?_
                        refine so_sub (pc := 18) (lv' := [(0, .ref (evA (xV X) 0)), (1, .int (1 : Int32)), (2, .int v2)]) [2, 0, 3] rfl ?_
                        exact ih _ _ _ h
                      · have h := iq hc28 h
                        refine so_goto (pc := 160) hX 18 dX10_draws_160 (by decide) ?_
                        refine so_sub (pc := 18) (lv' := [(0, .ref (evA (xV X) 0)), (1, .int v1), (2, .int v2)]) [1, 2, 3] rfl ?_
                        exact ih _ _ _ h
                · have h := ip hc12 h
                  refine so_aload_n (pc := 125) hX dX10_draws_125 1 rfl ?_
                  refine so_gI (pc := 126) hX dX10_draws_126 fl_X10_224 (ekM hL rfl) ?_
                  refine so_if_eq (pc := 129) hX 144 dX10_draws_129 (by decide) (fun hc13 => ?_) (fun hc13 => ?_)
                  · have h := ip hc13 h
                    refine so_aload_n (pc := 144) hX dX10_draws_144 1 rfl ?_
                    refine so_iconst (v := (1 : Int32)) (pc := 145) hX dX10_draws_145 (by decide) ?_
                    refine so_aload_n (pc := 146) hX dX10_draws_146 1 rfl ?_
                    refine so_gI (pc := 147) hX dX10_draws_147 fl_X10_218 (ekM hL rfl) ?_
                    obtain ⟨μ14, hr, h⟩ := ob h
                    refine so_callV (As := [.int (1 : Int32), .int (μ9.1 0 26)]) (rest := []) (pc := 150) hX dX10_draws_150 (c_X10_fail hL hr) mw_X10_fail mv_X10_fail ml_X10_230 (ekM hL rfl) (by decide) rfl rfl rfl rfl (by omega) (by decide) (Nat.le_of_ble_eq_true rfl) ?_
                    refine so_aload_n (pc := 153) hX dX10_draws_153 1 rfl ?_
                    refine so_gI (pc := 154) hX dX10_draws_154 fl_X10_212 (ekM hL rfl) ?_
                    refine so_if_eq (pc := 157) hX 163 dX10_draws_157 (by decide) (fun hc15 => ?_) (fun hc15 => ?_)
                    · have h := ip hc15 h
                      refine so_iload_n (pc := 163) hX dX10_draws_163 0 rfl ?_
                      refine so_bipush (v := (124 : Int32)) (pc := 164) hX dX10_draws_164 (by decide) ?_
                      refine so_icmp_ne (pc := 166) hX 197 dX10_draws_166 (by decide) (fun hz => absurd hc11 hz) (fun _ => ?_)
                      refine so_aload_n (pc := 169) hX dX10_draws_169 1 rfl ?_
                      refine so_gR (pc := 170) hX 33 dX10_draws_170 fl_X10_110 (ekM hL rfl) (erM hL rfl) ?_
                      refine so_aload_n (pc := 173) hX dX10_draws_173 1 rfl ?_
                      refine so_gI (pc := 174) hX dX10_draws_174 fl_X10_224 (ekM hL rfl) ?_
                      refine so_aload_n (pc := 177) hX dX10_draws_177 1 rfl ?_
                      refine so_gI (pc := 178) hX dX10_draws_178 fl_X10_218 (ekM hL rfl) ?_
                      obtain ⟨μ16, hr, h⟩ := ob h
                      refine so_iast (pc := 181) hX dX10_draws_181 (ekM hL rfl) (elM hL rfl) hr ?_
                      refine so_aload_n (pc := 182) hX dX10_draws_182 1 rfl ?_
                      refine so_dup (pc := 183) hX dX10_draws_183 rfl ?_
                      refine so_gI (pc := 184) hX dX10_draws_184 fl_X10_218 (ekM hL rfl) ?_
                      refine so_iconst (v := (1 : Int32)) (pc := 187) hX dX10_draws_187 (by decide) ?_
                      refine so_iadd (pc := 188) hX dX10_draws_188 ?_
                      refine so_pI (pc := 189) hX dX10_draws_189 fl_X10_218 fw_10_26 (ekM hL rfl) rfl rfl ?_
                      refine so_iconst (v := (1 : Int32)) (pc := 192) hX dX10_draws_192 (by decide) ?_
                      refine so_istore_n (pc := 193) hX dX10_draws_193 [(1, .int (1 : Int32)), (3, .int r6), (0, .ref (evA (xV X) 0)), (2, .int v2)] (by rw [hn]; decide) rfl ?_
                      refine so_goto (pc := 194) hX 250 dX10_draws_194 (by decide) ?_
                      refine so_goto (pc := 250) hX 18 dX10_draws_250 (by decide) ?_
                      refine so_sub (pc := 18) (lv' := [(0, .ref (evA (xV X) 0)), (1, .int (1 : Int32)), (2, .int v2)]) [2, 0, 3] rfl ?_
                      exact ih _ _ _ h
                    · have h := iq hc15 h
                      refine so_goto (pc := 160) hX 18 dX10_draws_160 (by decide) ?_
                      refine so_sub (pc := 18) (lv' := [(0, .ref (evA (xV X) 0)), (1, .int v1), (2, .int v2)]) [1, 2, 3] rfl ?_
                      exact ih _ _ _ h
                  · have h := iq hc13 h
                    refine so_iload_n (pc := 132) hX dX10_draws_132 0 rfl ?_
                    refine so_iconst (v := (-1 : Int32)) (pc := 133) hX dX10_draws_133 (by decide) ?_
                    refine so_icmp_ne (pc := 134) hX 153 dX10_draws_134 (by decide) (fun hc17 => ?_) (fun hc17 => ?_)
                    · have h := iq hc17 h
                      refine so_aload_n (pc := 153) hX dX10_draws_153 1 rfl ?_
                      refine so_gI (pc := 154) hX dX10_draws_154 fl_X10_212 (ekM hL rfl) ?_
                      refine so_if_eq (pc := 157) hX 163 dX10_draws_157 (by decide) (fun _ => ?_) (fun hz => absurd hc10 hz)
                      refine so_iload_n (pc := 163) hX dX10_draws_163 0 rfl ?_
                      refine so_bipush (v := (124 : Int32)) (pc := 164) hX dX10_draws_164 (by decide) ?_
                      refine so_icmp_ne (pc := 166) hX 197 dX10_draws_166 (by decide) (fun hz => absurd hc11 hz) (fun _ => ?_)
                      refine so_aload_n (pc := 169) hX dX10_draws_169 1 rfl ?_
                      refine so_gR (pc := 170) hX 33 dX10_draws_170 fl_X10_110 (ekM hL rfl) (erM hL rfl) ?_
                      refine so_aload_n (pc := 173) hX dX10_draws_173 1 rfl ?_
                      refine so_gI (pc := 174) hX dX10_draws_174 fl_X10_224 (ekM hL rfl) ?_
                      refine so_aload_n (pc := 177) hX dX10_draws_177 1 rfl ?_
                      refine so_gI (pc := 178) hX dX10_draws_178 fl_X10_218 (ekM hL rfl) ?_
                      obtain ⟨μ23, hr, h⟩ := ob h
                      refine so_iast (pc := 181) hX dX10_draws_181 (ekM hL rfl) (elM hL rfl) hr ?_
                      refine so_aload_n (pc := 182) hX dX10_draws_182 1 rfl ?_
                      refine so_dup (pc := 183) hX dX10_draws_183 rfl ?_
                      refine so_gI (pc := 184) hX dX10_draws_184 fl_X10_218 (ekM hL rfl) ?_
                      refine so_iconst (v := (1 : Int32)) (pc := 187) hX dX10_draws_187 (by decide) ?_
                      refine so_iadd (pc := 188) hX dX10_draws_188 ?_
                      refine so_pI (pc := 189) hX dX10_draws_189 fl_X10_218 fw_10_26 (ekM hL rfl) rfl rfl ?_
                      refine so_iconst (v := (1 : Int32)) (pc := 192) hX dX10_draws_192 (by decide) ?_
                      refine so_istore_n (pc := 193) hX dX10_draws_193 [(1, .int (1 : Int32)), (3, .int r6), (0, .ref (evA (xV X) 0)), (2, .int v2)] (by rw [hn]; decide) rfl ?_
                      refine so_goto (pc := 194) hX 250 dX10_draws_194 (by decide) ?_
                      refine so_goto (pc := 250) hX 18 dX10_draws_250 (by decide) ?_
                      refine so_sub (pc := 18) (lv' := [(0, .ref (evA (xV X) 0)), (1, .int (1 : Int32)), (2, .int v2)]) [2, 0, 3] rfl ?_
                      exact ih _ _ _ h
                    · have h := ip hc17 h
                      refine so_aload_n (pc := 137) hX dX10_draws_137 1 rfl ?_
                      refine so_gI (pc := 138) hX dX10_draws_138 fl_X10_224 (ekM hL rfl) ?_
                      refine so_if_le (pc := 141) hX 153 dX10_draws_141 (by decide) (fun hc18 => ?_) (fun hc18 => ?_)
                      · have h := ip hc18 h
                        refine so_aload_n (pc := 153) hX dX10_draws_153 1 rfl ?_
                        refine so_gI (pc := 154) hX dX10_draws_154 fl_X10_212 (ekM hL rfl) ?_
                        refine so_if_eq (pc := 157) hX 163 dX10_draws_157 (by decide) (fun _ => ?_) (fun hz => absurd hc10 hz)
                        refine so_iload_n (pc := 163) hX dX10_draws_163 0 rfl ?_
                        refine so_bipush (v := (124 : Int32)) (pc := 164) hX dX10_draws_164 (by decide) ?_
                        refine so_icmp_ne (pc := 166) hX 197 dX10_draws_166 (by decide) (fun hz => absurd hc11 hz) (fun _ => ?_)
                        refine so_aload_n (pc := 169) hX dX10_draws_169 1 rfl ?_
                        refine so_gR (pc := 170) hX 33 dX10_draws_170 fl_X10_110 (ekM hL rfl) (erM hL rfl) ?_
                        refine so_aload_n (pc := 173) hX dX10_draws_173 1 rfl ?_
                        refine so_gI (pc := 174) hX dX10_draws_174 fl_X10_224 (ekM hL rfl) ?_
                        refine so_aload_n (pc := 177) hX dX10_draws_177 1 rfl ?_
                        refine so_gI (pc := 178) hX dX10_draws_178 fl_X10_218 (ekM hL rfl) ?_
                        obtain ⟨μ19, hr, h⟩ := ob h
                        refine so_iast (pc := 181) hX dX10_draws_181 (ekM hL rfl) (elM hL rfl) hr ?_
                        refine so_aload_n (pc := 182) hX dX10_draws_182 1 rfl ?_
                        refine so_dup (pc := 183) hX dX10_draws_183 rfl ?_
                        refine so_gI (pc := 184) hX dX10_draws_184 fl_X10_218 (ekM hL rfl) ?_
                        refine so_iconst (v := (1 : Int32)) (pc := 187) hX dX10_draws_187 (by decide) ?_
                        refine so_iadd (pc := 188) hX dX10_draws_188 ?_
                        refine so_pI (pc := 189) hX dX10_draws_189 fl_X10_218 fw_10_26 (ekM hL rfl) rfl rfl ?_
                        refine so_iconst (v := (1 : Int32)) (pc := 192) hX dX10_draws_192 (by decide) ?_
                        refine so_istore_n (pc := 193) hX dX10_draws_193 [(1, .int (1 : Int32)), (3, .int r6), (0, .ref (evA (xV X) 0)), (2, .int v2)] (by rw [hn]; decide) rfl ?_
                        refine so_goto (pc := 194) hX 250 dX10_draws_194 (by decide) ?_
                        refine so_goto (pc := 250) hX 18 dX10_draws_250 (by decide) ?_
                        refine so_sub (pc := 18) (lv' := [(0, .ref (evA (xV X) 0)), (1, .int (1 : Int32)), (2, .int v2)]) [2, 0, 3] rfl ?_
                        exact ih _ _ _ h
                      · have h := iq hc18 h
                        refine so_aload_n (pc := 144) hX dX10_draws_144 1 rfl ?_
                        refine so_iconst (v := (1 : Int32)) (pc := 145) hX dX10_draws_145 (by decide) ?_
                        refine so_aload_n (pc := 146) hX dX10_draws_146 1 rfl ?_
                        refine so_gI (pc := 147) hX dX10_draws_147 fl_X10_218 (ekM hL rfl) ?_
                        obtain ⟨μ20, hr, h⟩ := ob h
                        refine so_callV (As := [.int (1 : Int32), .int (μ9.1 0 26)]) (rest := []) (pc := 150) hX dX10_draws_150 (c_X10_fail hL hr) mw_X10_fail mv_X10_fail ml_X10_230 (ekM hL rfl) (by decide) rfl rfl rfl rfl (by omega) (by decide) (Nat.le_of_ble_eq_true rfl) ?_
                        refine so_aload_n (pc := 153) hX dX10_draws_153 1 rfl ?_
                        refine so_gI (pc := 154) hX dX10_draws_154 fl_X10_212 (ekM hL rfl) ?_
                        refine so_if_eq (pc := 157) hX 163 dX10_draws_157 (by decide) (fun hc21 => ?_) (fun hc21 => ?_)
                        · have h := ip hc21 h
                          refine so_iload_n (pc := 163) hX dX10_draws_163 0 rfl ?_
                          refine so_bipush (v := (124 : Int32)) (pc := 164) hX dX10_draws_164 (by decide) ?_
                          refine so_icmp_ne (pc := 166) hX 197 dX10_draws_166 (by decide) (fun hz => absurd hc11 hz) (fun _ => ?_)
                          refine so_aload_n (pc := 169) hX dX10_draws_169 1 rfl ?_
                          refine so_gR (pc := 170) hX 33 dX10_draws_170 fl_X10_110 (ekM hL rfl) (erM hL rfl) ?_
                          refine so_aload_n (pc := 173) hX dX10_draws_173 1 rfl ?_
                          refine so_gI (pc := 174) hX dX10_draws_174 fl_X10_224 (ekM hL rfl) ?_
                          refine so_aload_n (pc := 177) hX dX10_draws_177 1 rfl ?_
                          refine so_gI (pc := 178) hX dX10_draws_178 fl_X10_218 (ekM hL rfl) ?_
                          obtain ⟨μ22, hr, h⟩ := ob h
                          refine so_iast (pc := 181) hX dX10_draws_181 (ekM hL rfl) (elM hL rfl) hr ?_
                          refine so_aload_n (pc := 182) hX dX10_draws_182 1 rfl ?_
                          refine so_dup (pc := 183) hX dX10_draws_183 rfl ?_
                          refine so_gI (pc := 184) hX dX10_draws_184 fl_X10_218 (ekM hL rfl) ?_
                          refine so_iconst (v := (1 : Int32)) (pc := 187) hX dX10_draws_187 (by decide) ?_
                          refine so_iadd (pc := 188) hX dX10_draws_188 ?_
                          refine so_pI (pc := 189) hX dX10_draws_189 fl_X10_218 fw_10_26 (ekM hL rfl) rfl rfl ?_
                          refine so_iconst (v := (1 : Int32)) (pc := 192) hX dX10_draws_192 (by decide) ?_
                          refine so_istore_n (pc := 193) hX dX10_draws_193 [(1, .int (1 : Int32)), (3, .int r6), (0, .ref (evA (xV X) 0)), (2, .int v2)] (by rw [hn]; decide) rfl ?_
                          refine so_goto (pc := 194) hX 250 dX10_draws_194 (by decide) ?_
                          refine so_goto (pc := 250) hX 18 dX10_draws_250 (by decide) ?_
                          refine so_sub (pc := 18) (lv' := [(0, .ref (evA (xV X) 0)), (1, .int (1 : Int32)), (2, .int v2)]) [2, 0, 3] rfl ?_
                          exact ih _ _ _ h
                        · have h := iq hc21 h
                          refine so_goto (pc := 160) hX 18 dX10_draws_160 (by decide) ?_
                          refine so_sub (pc := 18) (lv' := [(0, .ref (evA (xV X) 0)), (1, .int v1), (2, .int v2)]) [1, 2, 3] rfl ?_
                          exact ih _ _ _ h
              · have h := iq hc11 h
                refine so_iload_n (pc := 108) hX dX10_draws_108 0 rfl ?_
                refine so_bipush (v := (41 : Int32)) (pc := 109) hX dX10_draws_109 (by decide) ?_
                refine so_icmp_eq (pc := 111) hX 119 dX10_draws_111 (by decide) (fun hc31 => ?_) (fun hc31 => ?_)
                · have h := ip hc31 h
                  refine so_iload_n (pc := 119) hX dX10_draws_119 0 rfl ?_
                  refine so_bipush (v := (41 : Int32)) (pc := 120) hX dX10_draws_120 (by decide) ?_
                  refine so_icmp_ne (pc := 122) hX 132 dX10_draws_122 (by decide) (fun hz => absurd hc31 hz) (fun _ => ?_)
                  refine so_aload_n (pc := 125) hX dX10_draws_125 1 rfl ?_
                  refine so_gI (pc := 126) hX dX10_draws_126 fl_X10_224 (ekM hL rfl) ?_
                  refine so_if_eq (pc := 129) hX 144 dX10_draws_129 (by decide) (fun hc32 => ?_) (fun hc32 => ?_)
                  · have h := ip hc32 h
                    refine so_aload_n (pc := 144) hX dX10_draws_144 1 rfl ?_
                    refine so_iconst (v := (1 : Int32)) (pc := 145) hX dX10_draws_145 (by decide) ?_
                    refine so_aload_n (pc := 146) hX dX10_draws_146 1 rfl ?_
                    refine so_gI (pc := 147) hX dX10_draws_147 fl_X10_218 (ekM hL rfl) ?_
                    obtain ⟨μ33, hr, h⟩ := ob h
                    refine so_callV (As := [.int (1 : Int32), .int (μ9.1 0 26)]) (rest := []) (pc := 150) hX dX10_draws_150 (c_X10_fail hL hr) mw_X10_fail mv_X10_fail ml_X10_230 (ekM hL rfl) (by decide) rfl rfl rfl rfl (by omega) (by decide) (Nat.le_of_ble_eq_true rfl) ?_
                    refine so_aload_n (pc := 153) hX dX10_draws_153 1 rfl ?_
                    refine so_gI (pc := 154) hX dX10_draws_154 fl_X10_212 (ekM hL rfl) ?_
                    refine so_if_eq (pc := 157) hX 163 dX10_draws_157 (by decide) (fun hc34 => ?_) (fun hc34 => ?_)
                    · have h := ip hc34 h
                      refine so_iload_n (pc := 163) hX dX10_draws_163 0 rfl ?_
                      refine so_bipush (v := (124 : Int32)) (pc := 164) hX dX10_draws_164 (by decide) ?_
                      refine so_icmp_ne (pc := 166) hX 197 dX10_draws_166 (by decide) (fun _ => ?_) (fun hz => absurd hz hc11)
                      refine so_iload_n (pc := 197) hX dX10_draws_197 0 rfl ?_
                      refine so_bipush (v := (41 : Int32)) (pc := 198) hX dX10_draws_198 (by decide) ?_
                      refine so_icmp_ne (pc := 200) hX 244 dX10_draws_200 (by decide) (fun hz => absurd hc31 hz) (fun _ => ?_)
                      refine so_aload_n (pc := 203) hX dX10_draws_203 1 rfl ?_
                      refine so_dup (pc := 204) hX dX10_draws_204 rfl ?_
                      refine so_gI (pc := 205) hX dX10_draws_205 fl_X10_218 (ekM hL rfl) ?_
                      refine so_iconst (v := (1 : Int32)) (pc := 208) hX dX10_draws_208 (by decide) ?_
                      refine so_iadd (pc := 209) hX dX10_draws_209 ?_
                      refine so_pI (pc := 210) hX dX10_draws_210 fl_X10_218 fw_10_26 (ekM hL rfl) rfl rfl ?_
                      refine so_aload_n (pc := 213) hX dX10_draws_213 1 rfl ?_
                      obtain ⟨μ35, hr, h⟩ := ob h
                      refine so_callV (As := []) (rest := []) (pc := 214) hX dX10_draws_214 (c_X10_rowIsPart hL hr) mw_X10_rowIsPart mv_X10_rowIsPart ml_X10_267 (ekM hL rfl) (by decide) rfl rfl rfl rfl (by omega) (by decide) (Nat.le_of_ble_eq_true rfl) ?_
                      refine so_aload_n (pc := 217) hX dX10_draws_217 1 rfl ?_
                      refine so_dup (pc := 218) hX dX10_draws_218 rfl ?_
                      refine so_gI (pc := 219) hX dX10_draws_219 fl_X10_224 (ekM hL rfl) ?_
                      refine so_iconst (v := (1 : Int32)) (pc := 222) hX dX10_draws_222 (by decide) ?_
                      refine so_isub (pc := 223) hX dX10_draws_223 ?_
                      refine so_pI (pc := 224) hX dX10_draws_224 fl_X10_224 fw_10_44 (ekM hL rfl) rfl rfl ?_
                      refine so_aload_n (pc := 227) hX dX10_draws_227 1 rfl ?_
                      refine so_dup (pc := 228) hX dX10_draws_228 rfl ?_
                      refine so_gI (pc := 229) hX dX10_draws_229 fl_X10_227 (ekM hL rfl) ?_
                      refine so_iconst (v := (1 : Int32)) (pc := 232) hX dX10_draws_232 (by decide) ?_
                      refine so_isub (pc := 233) hX dX10_draws_233 ?_
                      refine so_pI (pc := 234) hX dX10_draws_234 fl_X10_227 fw_10_45 (ekM hL rfl) rfl rfl ?_
                      refine so_aload_n (pc := 237) hX dX10_draws_237 1 rfl ?_
                      obtain ⟨μ36, hr, h⟩ := ob h
                      refine so_callV (As := []) (rest := []) (pc := 238) hX dX10_draws_238 (c_X10_comes hL hr) mw_X10_comes mv_X10_comes ml_X10_261 (ekM hL rfl) (by decide) rfl rfl rfl rfl (by omega) (by decide) (Nat.le_of_ble_eq_true rfl) ?_
                      refine so_goto (pc := 241) hX 250 dX10_draws_241 (by decide) ?_
                      refine so_goto (pc := 250) hX 18 dX10_draws_250 (by decide) ?_
                      refine so_sub (pc := 18) (lv' := [(0, .ref (evA (xV X) 0)), (1, .int v1), (2, .int v2)]) [1, 2, 3] rfl ?_
                      exact ih _ _ _ h
                    · have h := iq hc34 h
                      refine so_goto (pc := 160) hX 18 dX10_draws_160 (by decide) ?_
                      refine so_sub (pc := 18) (lv' := [(0, .ref (evA (xV X) 0)), (1, .int v1), (2, .int v2)]) [1, 2, 3] rfl ?_
                      exact ih _ _ _ h
                  · have h := iq hc32 h
                    refine so_iload_n (pc := 132) hX dX10_draws_132 0 rfl ?_
                    refine so_iconst (v := (-1 : Int32)) (pc := 133) hX dX10_draws_133 (by decide) ?_
                    refine so_icmp_ne (pc := 134) hX 153 dX10_draws_134 (by decide) (fun hc37 => ?_) (fun hc37 => ?_)
                    · have h := iq hc37 h
                      refine so_aload_n (pc := 153) hX dX10_draws_153 1 rfl ?_
                      refine so_gI (pc := 154) hX dX10_draws_154 fl_X10_212 (ekM hL rfl) ?_
                      refine so_if_eq (pc := 157) hX 163 dX10_draws_157 (by decide) (fun _ => ?_) (fun hz => absurd hc10 hz)
                      refine so_iload_n (pc := 163) hX dX10_draws_163 0 rfl ?_
                      refine so_bipush (v := (124 : Int32)) (pc := 164) hX dX10_draws_164 (by decide) ?_
                      refine so_icmp_ne (pc := 166) hX 197 dX10_draws_166 (by decide) (fun _ => ?_) (fun hz => absurd hz hc11)
                      refine so_iload_n (pc := 197) hX dX10_draws_197 0 rfl ?_
                      refine so_bipush (v := (41 : Int32)) (pc := 198) hX dX10_draws_198 (by decide) ?_
                      refine so_icmp_ne (pc := 200) hX 244 dX10_draws_200 (by decide) (fun hz => absurd hc31 hz) (fun _ => ?_)
                      refine so_aload_n (pc := 203) hX dX10_draws_203 1 rfl ?_
                      refine so_dup (pc := 204) hX dX10_draws_204 rfl ?_
                      refine so_gI (pc := 205) hX dX10_draws_205 fl_X10_218 (ekM hL rfl) ?_
                      refine so_iconst (v := (1 : Int32)) (pc := 208) hX dX10_draws_208 (by decide) ?_
                      refine so_iadd (pc := 209) hX dX10_draws_209 ?_
                      refine so_pI (pc := 210) hX dX10_draws_210 fl_X10_218 fw_10_26 (ekM hL rfl) rfl rfl ?_
                      refine so_aload_n (pc := 213) hX dX10_draws_213 1 rfl ?_
                      obtain ⟨μ45, hr, h⟩ := ob h
                      refine so_callV (As := []) (rest := []) (pc := 214) hX dX10_draws_214 (c_X10_rowIsPart hL hr) mw_X10_rowIsPart mv_X10_rowIsPart ml_X10_267 (ekM hL rfl) (by decide) rfl rfl rfl rfl (by omega) (by decide) (Nat.le_of_ble_eq_true rfl) ?_
                      refine so_aload_n (pc := 217) hX dX10_draws_217 1 rfl ?_
                      refine so_dup (pc := 218) hX dX10_draws_218 rfl ?_
                      refine so_gI (pc := 219) hX dX10_draws_219 fl_X10_224 (ekM hL rfl) ?_
                      refine so_iconst (v := (1 : Int32)) (pc := 222) hX dX10_draws_222 (by decide) ?_
                      refine so_isub (pc := 223) hX dX10_draws_223 ?_
                      refine so_pI (pc := 224) hX dX10_draws_224 fl_X10_224 fw_10_44 (ekM hL rfl) rfl rfl ?_
                      refine so_aload_n (pc := 227) hX dX10_draws_227 1 rfl ?_
                      refine so_dup (pc := 228) hX dX10_draws_228 rfl ?_
                      refine so_gI (pc := 229) hX dX10_draws_229 fl_X10_227 (ekM hL rfl) ?_
                      refine so_iconst (v := (1 : Int32)) (pc := 232) hX dX10_draws_232 (by decide) ?_
                      refine so_isub (pc := 233) hX dX10_draws_233 ?_
                      refine so_pI (pc := 234) hX dX10_draws_234 fl_X10_227 fw_10_45 (ekM hL rfl) rfl rfl ?_
                      refine so_aload_n (pc := 237) hX dX10_draws_237 1 rfl ?_
                      obtain ⟨μ46, hr, h⟩ := ob h
                      refine so_callV (As := []) (rest := []) (pc := 238) hX dX10_draws_238 (c_X10_comes hL hr) mw_X10_comes mv_X10_comes ml_X10_261 (ekM hL rfl) (by decide) rfl rfl rfl rfl (by omega) (by decide) (Nat.le_of_ble_eq_true rfl) ?_
                      refine so_goto (pc := 241) hX 250 dX10_draws_241 (by decide) ?_
                      refine so_goto (pc := 250) hX 18 dX10_draws_250 (by decide) ?_
                      refine so_sub (pc := 18) (lv' := [(0, .ref (evA (xV X) 0)), (1, .int v1), (2, .int v2)]) [1, 2, 3] rfl ?_
                      exact ih _ _ _ h
                    · have h := ip hc37 h
                      refine so_aload_n (pc := 137) hX dX10_draws_137 1 rfl ?_
                      refine so_gI (pc := 138) hX dX10_draws_138 fl_X10_224 (ekM hL rfl) ?_
                      refine so_if_le (pc := 141) hX 153 dX10_draws_141 (by decide) (fun hc38 => ?_) (fun hc38 => ?_)
                      · have h := ip hc38 h
                        refine so_aload_n (pc := 153) hX dX10_draws_153 1 rfl ?_
                        refine so_gI (pc := 154) hX dX10_draws_154 fl_X10_212 (ekM hL rfl) ?_
                        refine so_if_eq (pc := 157) hX 163 dX10_draws_157 (by decide) (fun _ => ?_) (fun hz => absurd hc10 hz)
                        refine so_iload_n (pc := 163) hX dX10_draws_163 0 rfl ?_
                        refine so_bipush (v := (124 : Int32)) (pc := 164) hX dX10_draws_164 (by decide) ?_
                        refine so_icmp_ne (pc := 166) hX 197 dX10_draws_166 (by decide) (fun _ => ?_) (fun hz => absurd hz hc11)
                        refine so_iload_n (pc := 197) hX dX10_draws_197 0 rfl ?_
                        refine so_bipush (v := (41 : Int32)) (pc := 198) hX dX10_draws_198 (by decide) ?_
                        refine so_icmp_ne (pc := 200) hX 244 dX10_draws_200 (by decide) (fun hz => absurd hc31 hz) (fun _ => ?_)
                        refine so_aload_n (pc := 203) hX dX10_draws_203 1 rfl ?_
                        refine so_dup (pc := 204) hX dX10_draws_204 rfl ?_
                        refine so_gI (pc := 205) hX dX10_draws_205 fl_X10_218 (ekM hL rfl) ?_
                        refine so_iconst (v := (1 : Int32)) (pc := 208) hX dX10_draws_208 (by decide) ?_
                        refine so_iadd (pc := 209) hX dX10_draws_209 ?_
                        refine so_pI (pc := 210) hX dX10_draws_210 fl_X10_218 fw_10_26 (ekM hL rfl) rfl rfl ?_
                        refine so_aload_n (pc := 213) hX dX10_draws_213 1 rfl ?_
                        obtain ⟨μ39, hr, h⟩ := ob h
                        refine so_callV (As := []) (rest := []) (pc := 214) hX dX10_draws_214 (c_X10_rowIsPart hL hr) mw_X10_rowIsPart mv_X10_rowIsPart ml_X10_267 (ekM hL rfl) (by decide) rfl rfl rfl rfl (by omega) (by decide) (Nat.le_of_ble_eq_true rfl) ?_
                        refine so_aload_n (pc := 217) hX dX10_draws_217 1 rfl ?_
                        refine so_dup (pc := 218) hX dX10_draws_218 rfl ?_
                        refine so_gI (pc := 219) hX dX10_draws_219 fl_X10_224 (ekM hL rfl) ?_
                        refine so_iconst (v := (1 : Int32)) (pc := 222) hX dX10_draws_222 (by decide) ?_
                        refine so_isub (pc := 223) hX dX10_draws_223 ?_
                        refine so_pI (pc := 224) hX dX10_draws_224 fl_X10_224 fw_10_44 (ekM hL rfl) rfl rfl ?_
                        refine so_aload_n (pc := 227) hX dX10_draws_227 1 rfl ?_
                        refine so_dup (pc := 228) hX dX10_draws_228 rfl ?_
                        refine so_gI (pc := 229) hX dX10_draws_229 fl_X10_227 (ekM hL rfl) ?_
                        refine so_iconst (v := (1 : Int32)) (pc := 232) hX dX10_draws_232 (by decide) ?_
                        refine so_isub (pc := 233) hX dX10_draws_233 ?_
                        refine so_pI (pc := 234) hX dX10_draws_234 fl_X10_227 fw_10_45 (ekM hL rfl) rfl rfl ?_
                        refine so_aload_n (pc := 237) hX dX10_draws_237 1 rfl ?_
                        obtain ⟨μ40, hr, h⟩ := ob h
                        refine so_callV (As := []) (rest := []) (pc := 238) hX dX10_draws_238 (c_X10_comes hL hr) mw_X10_comes mv_X10_comes ml_X10_261 (ekM hL rfl) (by decide) rfl rfl rfl rfl (by omega) (by decide) (Nat.le_of_ble_eq_true rfl) ?_
                        refine so_goto (pc := 241) hX 250 dX10_draws_241 (by decide) ?_
                        refine so_goto (pc := 250) hX 18 dX10_draws_250 (by decide) ?_
                        refine so_sub (pc := 18) (lv' := [(0, .ref (evA (xV X) 0)), (1, .int v1), (2, .int v2)]) [1, 2, 3] rfl ?_
                        exact ih _ _ _ h
                      · have h := iq hc38 h
                        refine so_aload_n (pc := 144) hX dX10_draws_144 1 rfl ?_
                        refine so_iconst (v := (1 : Int32)) (pc := 145) hX dX10_draws_145 (by decide) ?_
                        refine so_aload_n (pc := 146) hX dX10_draws_146 1 rfl ?_
                        refine so_gI (pc := 147) hX dX10_draws_147 fl_X10_218 (ekM hL rfl) ?_
                        obtain ⟨μ41, hr, h⟩ := ob h
                        refine so_callV (As := [.int (1 : Int32), .int (μ9.1 0 26)]) (rest := []) (pc := 150) hX dX10_draws_150 (c_X10_fail hL hr) mw_X10_fail mv_X10_fail ml_X10_230 (ekM hL rfl) (by decide) rfl rfl rfl rfl (by omega) (by decide) (Nat.le_of_ble_eq_true rfl) ?_
                        refine so_aload_n (pc := 153) hX dX10_draws_153 1 rfl ?_
                        refine so_gI (pc := 154) hX dX10_draws_154 fl_X10_212 (ekM hL rfl) ?_
                        refine so_if_eq (pc := 157) hX 163 dX10_draws_157 (by decide) (fun hc42 => ?_) (fun hc42 => ?_)
                        · have h := ip hc42 h
                          refine so_iload_n (pc := 163) hX dX10_draws_163 0 rfl ?_
                          refine so_bipush (v := (124 : Int32)) (pc := 164) hX dX10_draws_164 (by decide) ?_
                          refine so_icmp_ne (pc := 166) hX 197 dX10_draws_166 (by decide) (fun _ => ?_) (fun hz => absurd hz hc11)
                          refine so_iload_n (pc := 197) hX dX10_draws_197 0 rfl ?_
                          refine so_bipush (v := (41 : Int32)) (pc := 198) hX dX10_draws_198 (by decide) ?_
                          refine so_icmp_ne (pc := 200) hX 244 dX10_draws_200 (by decide) (fun hz => absurd hc31 hz) (fun _ => ?_)
                          refine so_aload_n (pc := 203) hX dX10_draws_203 1 rfl ?_
                          refine so_dup (pc := 204) hX dX10_draws_204 rfl ?_
                          refine so_gI (pc := 205) hX dX10_draws_205 fl_X10_218 (ekM hL rfl) ?_
                          refine so_iconst (v := (1 : Int32)) (pc := 208) hX dX10_draws_208 (by decide) ?_
                          refine so_iadd (pc := 209) hX dX10_draws_209 ?_
                          refine so_pI (pc := 210) hX dX10_draws_210 fl_X10_218 fw_10_26 (ekM hL rfl) rfl rfl ?_
                          refine so_aload_n (pc := 213) hX dX10_draws_213 1 rfl ?_
                          obtain ⟨μ43, hr, h⟩ := ob h
                          refine so_callV (As := []) (rest := []) (pc := 214) hX dX10_draws_214 (c_X10_rowIsPart hL hr) mw_X10_rowIsPart mv_X10_rowIsPart ml_X10_267 (ekM hL rfl) (by decide) rfl rfl rfl rfl (by omega) (by decide) (Nat.le_of_ble_eq_true rfl) ?_
                          refine so_aload_n (pc := 217) hX dX10_draws_217 1 rfl ?_
                          refine so_dup (pc := 218) hX dX10_draws_218 rfl ?_
                          refine so_gI (pc := 219) hX dX10_draws_219 fl_X10_224 (ekM hL rfl) ?_
                          refine so_iconst (v := (1 : Int32)) (pc := 222) hX dX10_draws_222 (by decide) ?_
                          refine so_isub (pc := 223) hX dX10_draws_223 ?_
                          refine so_pI (pc := 224) hX dX10_draws_224 fl_X10_224 fw_10_44 (ekM hL rfl) rfl rfl ?_
                          refine so_aload_n (pc := 227) hX dX10_draws_227 1 rfl ?_
                          refine so_dup (pc := 228) hX dX10_draws_228 rfl ?_
                          refine so_gI (pc := 229) hX dX10_draws_229 fl_X10_227 (ekM hL rfl) ?_
                          refine so_iconst (v := (1 : Int32)) (pc := 232) hX dX10_draws_232 (by decide) ?_
                          refine so_isub (pc := 233) hX dX10_draws_233 ?_
                          refine so_pI (pc := 234) hX dX10_draws_234 fl_X10_227 fw_10_45 (ekM hL rfl) rfl rfl ?_
                          refine so_aload_n (pc := 237) hX dX10_draws_237 1 rfl ?_
                          obtain ⟨μ44, hr, h⟩ := ob h
                          refine so_callV (As := []) (rest := []) (pc := 238) hX dX10_draws_238 (c_X10_comes hL hr) mw_X10_comes mv_X10_comes ml_X10_261 (ekM hL rfl) (by decide) rfl rfl rfl rfl (by omega) (by decide) (Nat.le_of_ble_eq_true rfl) ?_
                          refine so_goto (pc := 241) hX 250 dX10_draws_241 (by decide) ?_
                          refine so_goto (pc := 250) hX 18 dX10_draws_250 (by decide) ?_
                          refine so_sub (pc := 18) (lv' := [(0, .ref (evA (xV X) 0)), (1, .int v1), (2, .int v2)]) [1, 2, 3] rfl ?_
                          exact ih _ _ _ h
                        · have h := iq hc42 h
                          refine so_goto (pc := 160) hX 18 dX10_draws_160 (by decide) ?_
                          refine so_sub (pc := 18) (lv' := [(0, .ref (evA (xV X) 0)), (1, .int v1), (2, .int v2)]) [1, 2, 3] rfl ?_
                          exact ih _ _ _ h
                · have h := iq hc31 h
                  refine so_iload_n (pc := 114) hX dX10_draws_114 0 rfl ?_
                  refine so_iconst (v := (-1 : Int32)) (pc := 115) hX dX10_draws_115 (by decide) ?_
                  refine so_icmp_ne (pc := 116) hX 144 dX10_draws_116 (by decide) (fun hc47 => ?_) (fun hc47 => ?_)
                  · have h := iq hc47 h
                    refine so_aload_n (pc := 144) hX dX10_draws_144 1 rfl ?_
                    refine so_iconst (v := (1 : Int32)) (pc := 145) hX dX10_draws_145 (by decide) ?_
                    refine so_aload_n (pc := 146) hX dX10_draws_146 1 rfl ?_
                    refine so_gI (pc := 147) hX dX10_draws_147 fl_X10_218 (ekM hL rfl) ?_
                    obtain ⟨μ53, hr, h⟩ := ob h
                    refine so_callV (As := [.int (1 : Int32), .int (μ9.1 0 26)]) (rest := []) (pc := 150) hX dX10_draws_150 (c_X10_fail hL hr) mw_X10_fail mv_X10_fail ml_X10_230 (ekM hL rfl) (by decide) rfl rfl rfl rfl (by omega) (by decide) (Nat.le_of_ble_eq_true rfl) ?_
                    refine so_aload_n (pc := 153) hX dX10_draws_153 1 rfl ?_
                    refine so_gI (pc := 154) hX dX10_draws_154 fl_X10_212 (ekM hL rfl) ?_
                    refine so_if_eq (pc := 157) hX 163 dX10_draws_157 (by decide) (fun hc54 => ?_) (fun hc54 => ?_)
                    · have h := ip hc54 h
                      refine so_iload_n (pc := 163) hX dX10_draws_163 0 rfl ?_
                      refine so_bipush (v := (124 : Int32)) (pc := 164) hX dX10_draws_164 (by decide) ?_
                      refine so_icmp_ne (pc := 166) hX 197 dX10_draws_166 (by decide) (fun _ => ?_) (fun hz => absurd hz hc11)
                      refine so_iload_n (pc := 197) hX dX10_draws_197 0 rfl ?_
                      refine so_bipush (v := (41 : Int32)) (pc := 198) hX dX10_draws_198 (by decide) ?_
                      refine so_icmp_ne (pc := 200) hX 244 dX10_draws_200 (by decide) (fun _ => ?_) (fun hz => absurd hz hc31)
                      refine so_aload_n (pc := 244) hX dX10_draws_244 1 rfl ?_
                      obtain ⟨μ55, hr, h⟩ := ob h
                      refine so_callV (As := []) (rest := []) (pc := 245) hX dX10_draws_245 (c_X10_rowIsPart hL hr) mw_X10_rowIsPart mv_X10_rowIsPart ml_X10_267 (ekM hL rfl) (by decide) rfl rfl rfl rfl (by omega) (by decide) (Nat.le_of_ble_eq_true rfl) ?_
                      refine so_iconst (v := (0 : Int32)) (pc := 248) hX dX10_draws_248 (by decide) ?_
                      refine so_istore_n (pc := 249) hX dX10_draws_249 [(2, .int (0 : Int32)), (3, .int r6), (0, .ref (evA (xV X) 0)), (1, .int v1)] (by rw [hn]; decide) rfl ?_
                      refine so_goto (pc := 250) hX 18 dX10_draws_250 (by decide) ?_
                      refine so_sub (pc := 18) (lv' := [(0, .ref (evA (xV X) 0)), (1, .int v1), (2, .int (0 : Int32))]) [2, 3, 0] rfl ?_
                      exact ih _ _ _ h
                    · have h := iq hc54 h
                      refine so_goto (pc := 160) hX 18 dX10_draws_160 (by decide) ?_
                      refine so_sub (pc := 18) (lv' := [(0, .ref (evA (xV X) 0)), (1, .int v1), (2, .int v2)]) [1, 2, 3] rfl ?_
                      exact ih _ _ _ h
                  · have h := ip hc47 h
                    refine so_iload_n (pc := 119) hX dX10_draws_119 0 rfl ?_
                    refine so_bipush (v := (41 : Int32)) (pc := 120) hX dX10_draws_120 (by decide) ?_
                    refine so_icmp_ne (pc := 122) hX 132 dX10_draws_122 (by decide) (fun _ => ?_) (fun hz => absurd hz hc31)
                    refine so_iload_n (pc := 132) hX dX10_draws_132 0 rfl ?_
                    refine so_iconst (v := (-1 : Int32)) (pc := 133) hX dX10_draws_133 (by decide) ?_
                    refine so_icmp_ne (pc := 134) hX 153 dX10_draws_134 (by decide) (fun hz => absurd hc47 hz) (fun _ => ?_)
                    refine so_aload_n (pc := 137) hX dX10_draws_137 1 rfl ?_
                    refine so_gI (pc := 138) hX dX10_draws_138 fl_X10_224 (ekM hL rfl) ?_
                    refine so_if_le (pc := 141) hX 153 dX10_draws_141 (by decide) (fun hc48 => ?_) (fun hc48 => ?_)
                    · have h := ip hc48 h
                      refine so_aload_n (pc := 153) hX dX10_draws_153 1 rfl ?_
                      refine so_gI (pc := 154) hX dX10_draws_154 fl_X10_212 (ekM hL rfl) ?_
                      refine so_if_eq (pc := 157) hX 163 dX10_draws_157 (by decide) (fun _ => ?_) (fun hz => absurd hc10 hz)
                      refine so_iload_n (pc := 163) hX dX10_draws_163 0 rfl ?_
                      refine so_bipush (v := (124 : Int32)) (pc := 164) hX dX10_draws_164 (by decide) ?_
                      refine so_icmp_ne (pc := 166) hX 197 dX10_draws_166 (by decide) (fun _ => ?_) (fun hz => absurd hz hc11)
                      refine so_iload_n (pc := 197) hX dX10_draws_197 0 rfl ?_
                      refine so_bipush (v := (41 : Int32)) (pc := 198) hX dX10_draws_198 (by decide) ?_
                      refine so_icmp_ne (pc := 200) hX 244 dX10_draws_200 (by decide) (fun _ => ?_) (fun hz => absurd hz hc31)
                      refine so_aload_n (pc := 244) hX dX10_draws_244 1 rfl ?_
                      obtain ⟨μ49, hr, h⟩ := ob h
                      refine so_callV (As := []) (rest := []) (pc := 245) hX dX10_draws_245 (c_X10_rowIsPart hL hr) mw_X10_rowIsPart mv_X10_rowIsPart ml_X10_267 (ekM hL rfl) (by decide) rfl rfl rfl rfl (by omega) (by decide) (Nat.le_of_ble_eq_true rfl) ?_
                      refine so_iconst (v := (0 : Int32)) (pc := 248) hX dX10_draws_248 (by decide) ?_
                      refine so_istore_n (pc := 249) hX dX10_draws_249 [(2, .int (0 : Int32)), (3, .int r6), (0, .ref (evA (xV X) 0)), (1, .int v1)] (by rw [hn]; decide) rfl ?_
                      refine so_goto (pc := 250) hX 18 dX10_draws_250 (by decide) ?_
                      refine so_sub (pc := 18) (lv' := [(0, .ref (evA (xV X) 0)), (1, .int v1), (2, .int (0 : Int32))]) [2, 3, 0] rfl ?_
                      exact ih _ _ _ h
                    · have h := iq hc48 h
                      refine so_aload_n (pc := 144) hX dX10_draws_144 1 rfl ?_
                      refine so_iconst (v := (1 : Int32)) (pc := 145) hX dX10_draws_145 (by decide) ?_
                      refine so_aload_n (pc := 146) hX dX10_draws_146 1 rfl ?_
                      refine so_gI (pc := 147) hX dX10_draws_147 fl_X10_218 (ekM hL rfl) ?_
                      obtain ⟨μ50, hr, h⟩ := ob h
                      refine so_callV (As := [.int (1 : Int32), .int (μ9.1 0 26)]) (rest := []) (pc := 150) hX dX10_draws_150 (c_X10_fail hL hr) mw_X10_fail mv_X10_fail ml_X10_230 (ekM hL rfl) (by decide) rfl rfl rfl rfl (by omega) (by decide) (Nat.le_of_ble_eq_true rfl) ?_
                      refine so_aload_n (pc := 153) hX dX10_draws_153 1 rfl ?_
                      refine so_gI (pc := 154) hX dX10_draws_154 fl_X10_212 (ekM hL rfl) ?_
                      refine so_if_eq (pc := 157) hX 163 dX10_draws_157 (by decide) (fun hc51 => ?_) (fun hc51 => ?_)
                      · have h := ip hc51 h
                        refine so_iload_n (pc := 163) hX dX10_draws_163 0 rfl ?_
                        refine so_bipush (v := (124 : Int32)) (pc := 164) hX dX10_draws_164 (by decide) ?_
                        refine so_icmp_ne (pc := 166) hX 197 dX10_draws_166 (by decide) (fun _ => ?_) (fun hz => absurd hz hc11)
                        refine so_iload_n (pc := 197) hX dX10_draws_197 0 rfl ?_
                        refine so_bipush (v := (41 : Int32)) (pc := 198) hX dX10_draws_198 (by decide) ?_
                        refine so_icmp_ne (pc := 200) hX 244 dX10_draws_200 (by decide) (fun _ => ?_) (fun hz => absurd hz hc31)
                        refine so_aload_n (pc := 244) hX dX10_draws_244 1 rfl ?_
                        obtain ⟨μ52, hr, h⟩ := ob h
                        refine so_callV (As := []) (rest := []) (pc := 245) hX dX10_draws_245 (c_X10_rowIsPart hL hr) mw_X10_rowIsPart mv_X10_rowIsPart ml_X10_267 (ekM hL rfl) (by decide) rfl rfl rfl rfl (by omega) (by decide) (Nat.le_of_ble_eq_true rfl) ?_
                        refine so_iconst (v := (0 : Int32)) (pc := 248) hX dX10_draws_248 (by decide) ?_
                        refine so_istore_n (pc := 249) hX dX10_draws_249 [(2, .int (0 : Int32)), (3, .int r6), (0, .ref (evA (xV X) 0)), (1, .int v1)] (by rw [hn]; decide) rfl ?_
                        refine so_goto (pc := 250) hX 18 dX10_draws_250 (by decide) ?_
                        refine so_sub (pc := 18) (lv' := [(0, .ref (evA (xV X) 0)), (1, .int v1), (2, .int (0 : Int32))]) [2, 3, 0] rfl ?_
                        exact ih _ _ _ h
                      · have h := iq hc51 h
                        refine so_goto (pc := 160) hX 18 dX10_draws_160 (by decide) ?_
                        refine so_sub (pc := 18) (lv' := [(0, .ref (evA (xV X) 0)), (1, .int v1), (2, .int v2)]) [1, 2, 3] rfl ?_
                        exact ih _ _ _ h
          · have h := ip hc7 h
            refine so_aload_n (pc := 63) hX dX10_draws_63 1 rfl ?_
            refine so_gR (pc := 64) hX 34 dX10_draws_64 fl_X10_113 (ekM hL rfl) (erM hL rfl) ?_
            refine so_aload_n (pc := 67) hX dX10_draws_67 1 rfl ?_
            refine so_gI (pc := 68) hX dX10_draws_68 fl_X10_224 (ekM hL rfl) ?_
            refine so_aload_n (pc := 71) hX dX10_draws_71 1 rfl ?_
            refine so_gI (pc := 72) hX dX10_draws_72 fl_X10_218 (ekM hL rfl) ?_
            obtain ⟨μ8, hr, h⟩ := ob h
            refine so_iast (pc := 75) hX dX10_draws_75 (ekM hL rfl) (elM hL rfl) hr ?_
            refine so_aload_n (pc := 76) hX dX10_draws_76 1 rfl ?_
            refine so_dup (pc := 77) hX dX10_draws_77 rfl ?_
            refine so_gI (pc := 78) hX dX10_draws_78 fl_X10_218 (ekM hL rfl) ?_
            refine so_iconst (v := (1 : Int32)) (pc := 81) hX dX10_draws_81 (by decide) ?_
            refine so_iadd (pc := 82) hX dX10_draws_82 ?_
            refine so_pI (pc := 83) hX dX10_draws_83 fl_X10_218 fw_10_26 (ekM hL rfl) rfl rfl ?_
            refine so_iconst (v := (1 : Int32)) (pc := 86) hX dX10_draws_86 (by decide) ?_
            refine so_istore_n (pc := 87) hX dX10_draws_87 [(1, .int (1 : Int32)), (3, .int r6), (0, .ref (evA (xV X) 0)), (2, .int v2)] (by rw [hn]; decide) rfl ?_
            refine so_goto (pc := 88) hX 18 dX10_draws_88 (by decide) ?_
            refine so_sub (pc := 18) (lv' := [(0, .ref (evA (xV X) 0)), (1, .int (1 : Int32)), (2, .int v2)]) [2, 0, 3] rfl ?_
            exact ih _ _ _ h
        · have h := iq hc4 h
          refine so_aload_n (pc := 33) hX dX10_draws_33 0 rfl ?_
          obtain ⟨r57, μ56, hr, h⟩ := obd h
          refine so_callV (As := []) (rest := []) (pc := 34) hX dX10_draws_34 (c_X10_parts hL hr) mw_X10_parts mv_X10_parts ml_X10_257 (ekM hL rfl) (by decide) rfl rfl rfl rfl (by omega) (by decide) (Nat.le_of_ble_eq_true rfl) ?_
          refine so_if_ne (pc := 37) hX 43 dX10_draws_37 (by decide) (fun hc58 => ?_) (fun hc58 => ?_)
          · have h := iq hc58 h
            refine so_aload_n (pc := 43) hX dX10_draws_43 0 rfl ?_
            obtain ⟨μ59, hr, h⟩ := ob h
            refine so_callV (As := []) (rest := []) (pc := 44) hX dX10_draws_44 (c_X10_comes hL hr) mw_X10_comes mv_X10_comes ml_X10_261 (ekM hL rfl) (by decide) rfl rfl rfl rfl (by omega) (by decide) (Nat.le_of_ble_eq_true rfl) ?_
            refine so_iconst (v := (0 : Int32)) (pc := 47) hX dX10_draws_47 (by decide) ?_
            refine so_istore_n (pc := 48) hX dX10_draws_48 [(1, .int (0 : Int32)), (0, .ref (evA (xV X) 0)), (2, .int v2)] (by rw [hn]; decide) rfl ?_
            refine so_goto (pc := 49) hX 18 dX10_draws_49 (by decide) ?_
            refine so_sub (pc := 18) (lv' := [(0, .ref (evA (xV X) 0)), (1, .int (0 : Int32)), (2, .int v2)]) [1, 0, 2] rfl ?_
            exact ih _ _ _ h
          · have h := ip hc58 h
            refine so_goto (pc := 40) hX 18 dX10_draws_40 (by decide) ?_
            refine so_sub (pc := 18) (lv' := [(0, .ref (evA (xV X) 0)), (1, .int v1), (2, .int v2)]) [0, 1, 2] rfl ?_
            exact ih _ _ _ h
set_option maxHeartbeats 4000000 in
set_option maxRecDepth 100000 in
theorem c_X10_draws {l : Launch} {V : Ev} (hL : V.2.2.2 = lyM)   {μ : Mem} {μZ : Mem} (h : f_X10_draws  μ = some μZ) : CT l V yX10_draws cX10_draws 4 none 3 [.ref (evA V 0)] μ μZ none := by
  refine so_met [(0, .ref (evA V 0))] (by decide) (Nat.le_of_ble_eq_true rfl) (evMn hL) rfl ?_
  intro X hl hV hn hX hR
  subst hl hV
  unfold f_X10_draws at h
  refine so_aload_n (pc := 0) hX dX10_draws_0 0 rfl ?_
  refine so_iconst (v := (0 : Int32)) (pc := 1) hX dX10_draws_1 (by decide) ?_
  refine so_pI (pc := 2) hX dX10_draws_2 fl_X10_224 fw_10_44 (ekM hL rfl) rfl rfl ?_
  refine so_aload_n (pc := 5) hX dX10_draws_5 0 rfl ?_
  refine so_iconst (v := (0 : Int32)) (pc := 6) hX dX10_draws_6 (by decide) ?_
  refine so_pI (pc := 7) hX dX10_draws_7 fl_X10_227 fw_10_45 (ekM hL rfl) rfl rfl ?_
  refine so_aload_n (pc := 10) hX dX10_draws_10 0 rfl ?_
  obtain ⟨μ1, hr, h⟩ := ob h
  refine so_callV (As := []) (rest := []) (pc := 11) hX dX10_draws_11 (c_X10_begins hL hr) mw_X10_begins mv_X10_begins ml_X10_254 (ekM hL rfl) (by decide) rfl rfl rfl rfl (by omega) (by decide) (Nat.le_of_ble_eq_true rfl) ?_
  refine so_iconst (v := (1 : Int32)) (pc := 14) hX dX10_draws_14 (by decide) ?_
  refine so_istore_n (pc := 15) hX dX10_draws_15 [(1, .int (1 : Int32)), (0, .ref (evA (xV X) 0))] (by rw [hn]; decide) rfl ?_
  refine so_iconst (v := (1 : Int32)) (pc := 16) hX dX10_draws_16 (by decide) ?_
  refine so_istore_n (pc := 17) hX dX10_draws_17 [(2, .int (1 : Int32)), (1, .int (1 : Int32)), (0, .ref (evA (xV X) 0))] (by rw [hn]; decide) rfl ?_
  refine so_sub (pc := 18) (lv' := [(0, .ref (evA (xV X) 0)), (1, .int (1 : Int32)), (2, .int (1 : Int32))]) [2, 1, 0] rfl ?_
  refine g_X10_draws_L18 hX hL hn hR (fun μ60 h => ?_) FU _ _ _ h
  exact so_vretH (pc := 253) hX hR h dX10_draws_253
set_option maxHeartbeats 4000000 in
set_option maxRecDepth 100000 in
theorem c_X10_isDoor {l : Launch} {V : Ev} (hL : V.2.2.2 = lyM) {v1 : Int32}  {μ : Mem} {rZ : Int32} {μZ : Mem} (h : f_X10_isDoor v1 μ = some (rZ, μZ)) : CT l V yX10_isDoor cX10_isDoor 2 (some .boolean) 0 [.ref (evA V 0), .int v1] μ μZ (some (.int rZ)) := by
  refine so_met [(0, .ref (evA V 0)), (1, .int v1)] (by decide) (Nat.le_of_ble_eq_true rfl) (evMn hL) rfl ?_
  intro X hl hV hn hX hR
  subst hl hV
  unfold f_X10_isDoor at h
  refine so_iload_n (pc := 0) hX dX10_isDoor_0 1 rfl ?_
  refine so_if_lt (pc := 1) hX 23 dX10_isDoor_1 (by decide) (fun hc1 => ?_) (fun hc1 => ?_)
  · have h := ip hc1 h
    refine so_iconst (v := (0 : Int32)) (pc := 23) hX dX10_isDoor_23 (by decide) ?_
    exact so_iretH (pc := 24) hX hR h (by decide) dX10_isDoor_24
  · have h := iq hc1 h
    refine so_iload_n (pc := 4) hX dX10_isDoor_4 1 rfl ?_
    refine so_bipush (v := (8 : Int32)) (pc := 5) hX dX10_isDoor_5 (by decide) ?_
    refine so_icmp_ge (pc := 7) hX 23 dX10_isDoor_7 (by decide) (fun hc2 => ?_) (fun hc2 => ?_)
    · have h := ip hc2 h
      refine so_iconst (v := (0 : Int32)) (pc := 23) hX dX10_isDoor_23 (by decide) ?_
      exact so_iretH (pc := 24) hX hR h (by decide) dX10_isDoor_24
    · have h := iq hc2 h
      refine so_aload_n (pc := 10) hX dX10_isDoor_10 0 rfl ?_
      refine so_gR (pc := 11) hX 38 dX10_isDoor_11 fl_X10_125 (ekM hL rfl) (erM hL rfl) ?_
      refine so_iload_n (pc := 14) hX dX10_isDoor_14 1 rfl ?_
      obtain ⟨e3, hr, h⟩ := ob h
      refine so_iald (pc := 15) hX dX10_isDoor_15 (ekM hL rfl) (elM hL rfl) hr ?_
      refine so_if_le (pc := 16) hX 23 dX10_isDoor_16 (by decide) (fun hc4 => ?_) (fun hc4 => ?_)
      · have h := ip hc4 h
        refine so_iconst (v := (0 : Int32)) (pc := 23) hX dX10_isDoor_23 (by decide) ?_
        exact so_iretH (pc := 24) hX hR h (by decide) dX10_isDoor_24
      · have h := iq hc4 h
        refine so_iconst (v := (1 : Int32)) (pc := 19) hX dX10_isDoor_19 (by decide) ?_
        refine so_goto (pc := 20) hX 24 dX10_isDoor_20 (by decide) ?_
        exact so_iretH (pc := 24) hX hR h (by decide) dX10_isDoor_24
set_option maxHeartbeats 4000000 in
set_option maxRecDepth 100000 in
theorem g_X10_door_L125 {X : Cx} (hX : Fx X cX10_door RX10 4) (hL : (xV X).2.2.2 = lyM) (hn : xn X = 6) {rZ : Int32} {μZ : Mem} (hR : Rt X (some .int) μZ (some (.int rZ))) {v1 : Int32} {v2 : Int32} {v3 : Int32} {v4 : Int32}  {K : Mem → Option (Int32 × Mem)} (hK : ∀  (μ : Mem), K μ = some (rZ, μZ) → Gd X 157 [(0, .ref (evA (xV X) 0)), (1, .int v1), (2, .int v2), (3, .int v3), (4, .int v4)] [] μ) : ∀ (n : Nat) (v5 : Int32) (μ : Mem), f_X10_door_L125 v1 v2 v3 v4 K n v5 μ = some (rZ, μZ) → Gd X 125 [(0, .ref (evA (xV X) 0)), (1, .int v1), (2, .int v2), (3, .int v3), (4, .int v4), (5, .int v5)] [] μ := by
  intro n
  induction n with
  | zero => intro _ _ h; rw [f_X10_door_L125] at h; cases h
  | succ n ih =>
    intro v5 μ h
    rw [f_X10_door_L125] at h
    refine so_iload (pc := 125) hX dX10_door_125 5 rfl ?_
    refine so_bipush (v := (64 : Int32)) (pc := 127) hX dX10_door_127 (by decide) ?_
    refine so_icmp_ge (pc := 129) hX 157 dX10_door_129 (by decide) (fun hc17 => ?_) (fun hc17 => ?_)
    · have h := ip hc17 h
      refine so_sub (pc := 157) (lv' := [(0, .ref (evA (xV X) 0)), (1, .int v1), (2, .int v2), (3, .int v3), (4, .int v4)]) [0, 1, 2, 3, 4] rfl ?_
      exact hK _ h
    · have h := iq hc17 h
      refine so_aload_n (pc := 132) hX dX10_door_132 0 rfl ?_
      refine so_gR (pc := 133) hX 40 dX10_door_133 fl_X10_131 (ekM hL rfl) (erM hL rfl) ?_
      refine so_bipush (v := (64 : Int32)) (pc := 136) hX dX10_door_136 (by decide) ?_
      refine so_iload_n (pc := 138) hX dX10_door_138 1 rfl ?_
      refine so_imul (pc := 139) hX dX10_door_139 ?_
      refine so_iload (pc := 140) hX dX10_door_140 5 rfl ?_
      refine so_iadd (pc := 142) hX dX10_door_142 ?_
      refine so_aload_n (pc := 143) hX dX10_door_143 0 rfl ?_
      refine so_gR (pc := 144) hX 25 dX10_door_144 fl_X10_86 (ekM hL rfl) (erM hL rfl) ?_
      refine so_iload (pc := 147) hX dX10_door_147 5 rfl ?_
      obtain ⟨e18, hr, h⟩ := ob h
      refine so_iald (pc := 149) hX dX10_door_149 (ekM hL rfl) (elM hL rfl) hr ?_
      obtain ⟨μ19, hr, h⟩ := ob h
      refine so_iast (pc := 150) hX dX10_door_150 (ekM hL rfl) (elM hL rfl) hr ?_
      refine so_iinc (pc := 151) hX dX10_door_151 5 (1 : Int32) [(5, .int (v5 + (1 : Int32))), (0, .ref (evA (xV X) 0)), (1, .int v1), (2, .int v2), (3, .int v3), (4, .int v4)] rfl (by decide) (by rw [hn]; decide) rfl ?_
      refine so_goto (pc := 154) hX 125 dX10_door_154 (by decide) ?_
      refine so_sub (pc := 125) (lv' := [(0, .ref (evA (xV X) 0)), (1, .int v1), (2, .int v2), (3, .int v3), (4, .int v4), (5, .int (v5 + (1 : Int32)))]) [1, 2, 3, 4, 5, 0] rfl ?_
      exact ih _ _ h
set_option maxHeartbeats 4000000 in
set_option maxRecDepth 100000 in
theorem g_X10_door_L189 {X : Cx} (hX : Fx X cX10_door RX10 4) (hL : (xV X).2.2.2 = lyM) (hn : xn X = 6) {rZ : Int32} {μZ : Mem} (hR : Rt X (some .int) μZ (some (.int rZ))) {v1 : Int32}  {K : Mem → Option (Int32 × Mem)} (hK : ∀  (μ : Mem), K μ = some (rZ, μZ) → Gd X 223 [(0, .ref (evA (xV X) 0))] [] μ) : ∀ (n : Nat) (v5 : Int32) (μ : Mem), f_X10_door_L189 v1 K n v5 μ = some (rZ, μZ) → Gd X 189 [(0, .ref (evA (xV X) 0)), (1, .int v1), (5, .int v5)] [] μ := by
  intro n
  induction n with
  | zero => intro _ _ h; rw [f_X10_door_L189] at h; cases h
  | succ n ih =>
    intro v5 μ h
    rw [f_X10_door_L189] at h
    refine so_iload (pc := 189) hX dX10_door_189 2 rfl ?_
    refine so_aload_n (pc := 191) hX dX10_door_191 0 rfl ?_
    refine so_gI (pc := 192) hX dX10_door_192 fl_X10_171 (ekM hL rfl) ?_
    refine so_icmp_ge (pc := 195) hX 223 dX10_door_195 (by decide) (fun hc25 => ?_) (fun hc25 => ?_)
    · have h := ip hc25 h
      refine so_sub (pc := 223) (lv' := [(0, .ref (evA (xV X) 0))]) [0] rfl ?_
      exact hK _ h
    · have h := iq hc25 h
      refine so_aload_n (pc := 198) hX dX10_door_198 0 rfl ?_
      refine so_gR (pc := 199) hX 23 dX10_door_199 fl_X10_76 (ekM hL rfl) (erM hL rfl) ?_
      refine so_iload (pc := 202) hX dX10_door_202 2 rfl ?_
      obtain ⟨e26, hr, h⟩ := ob h
      refine so_iald (pc := 204) hX dX10_door_204 (ekM hL rfl) (elM hL rfl) hr ?_
      refine so_iload_n (pc := 205) hX dX10_door_205 1 rfl ?_
      refine so_icmp_ne (pc := 206) hX 217 dX10_door_206 (by decide) (fun hc27 => ?_) (fun hc27 => ?_)
      · have h := iq hc27 h
        refine so_iinc (pc := 217) hX dX10_door_217 2 (1 : Int32) [(5, .int (v5 + (1 : Int32))), (0, .ref (evA (xV X) 0)), (1, .int v1)] rfl (by decide) (by rw [hn]; decide) rfl ?_
        refine so_goto (pc := 220) hX 189 dX10_door_220 (by decide) ?_
        refine so_sub (pc := 189) (lv' := [(0, .ref (evA (xV X) 0)), (1, .int v1), (5, .int (v5 + (1 : Int32)))]) [1, 2, 0] rfl ?_
        exact ih _ _ h
      · have h := ip hc27 h
        refine so_aload_n (pc := 209) hX dX10_door_209 0 rfl ?_
        refine so_gR (pc := 210) hX 23 dX10_door_210 fl_X10_76 (ekM hL rfl) (erM hL rfl) ?_
        refine so_iload (pc := 213) hX dX10_door_213 2 rfl ?_
        refine so_iconst (v := (-1 : Int32)) (pc := 215) hX dX10_door_215 (by decide) ?_
        obtain ⟨μ28, hr, h⟩ := ob h
        refine so_iast (pc := 216) hX dX10_door_216 (ekM hL rfl) (elM hL rfl) hr ?_
        refine so_iinc (pc := 217) hX dX10_door_217 2 (1 : Int32) [(5, .int (v5 + (1 : Int32))), (0, .ref (evA (xV X) 0)), (1, .int v1)] rfl (by decide) (by rw [hn]; decide) rfl ?_
        refine so_goto (pc := 220) hX 189 dX10_door_220 (by decide) ?_
        refine so_sub (pc := 189) (lv' := [(0, .ref (evA (xV X) 0)), (1, .int v1), (5, .int (v5 + (1 : Int32)))]) [1, 2, 0] rfl ?_
        exact ih _ _ h
set_option maxHeartbeats 4000000 in
set_option maxRecDepth 100000 in
theorem c_X10_door {l : Launch} {V : Ev} (hL : V.2.2.2 = lyM) {v1 : Int32} {v2 : Int32} {v3 : Int32} {v4 : Int32}  {μ : Mem} {rZ : Int32} {μZ : Mem} (h : f_X10_door v1 v2 v3 v4 μ = some (rZ, μZ)) : CT l V yX10_door cX10_door 6 (some .int) 4 [.ref (evA V 0), .int v1, .int v2, .int v3, .int v4] μ μZ (some (.int rZ)) := by
  refine so_met [(0, .ref (evA V 0)), (1, .int v1), (2, .int v2), (3, .int v3), (4, .int v4)] (by decide) (Nat.le_of_ble_eq_true rfl) (evMn hL) rfl ?_
  intro X hl hV hn hX hR
  subst hl hV
  unfold f_X10_door at h
  refine so_iload_n (pc := 0) hX dX10_door_0 1 rfl ?_
  refine so_iconst (v := (0 : Int32)) (pc := 1) hX dX10_door_1 (by decide) ?_
  refine so_bipush (v := (7 : Int32)) (pc := 2) hX dX10_door_2 (by decide) ?_
  obtain ⟨r2, μ1, hr, h⟩ := obd h
  refine so_callS (As := [.int v1, .int (0 : Int32), .int (7 : Int32)]) (rest := []) (pc := 4) hX dX10_door_4 (c_X10_isIn hL hr) mw_X10_isIn ms_X10_isIn ml_X10_174 rfl rfl (by omega) (by decide) (Nat.le_of_ble_eq_true rfl) ?_
  refine so_if_eq (pc := 7) hX 42 dX10_door_7 (by decide) (fun hc3 => ?_) (fun hc3 => ?_)
  · have h := ip hc3 h
    refine so_bipush (v := (-2 : Int32)) (pc := 42) hX dX10_door_42 (by decide) ?_
    exact so_iretH (pc := 44) hX hR h rfl dX10_door_44
  · have h := iq hc3 h
    refine so_iload_n (pc := 10) hX dX10_door_10 2 rfl ?_
    refine so_iconst (v := (1 : Int32)) (pc := 11) hX dX10_door_11 (by decide) ?_
    refine so_bipush (v := (60 : Int32)) (pc := 12) hX dX10_door_12 (by decide) ?_
    obtain ⟨r5, μ4, hr, h⟩ := obd h
    refine so_callS (As := [.int v2, .int (1 : Int32), .int (60 : Int32)]) (rest := []) (pc := 14) hX dX10_door_14 (c_X10_isIn hL hr) mw_X10_isIn ms_X10_isIn ml_X10_174 rfl rfl (by omega) (by decide) (Nat.le_of_ble_eq_true rfl) ?_
    refine so_if_eq (pc := 17) hX 42 dX10_door_17 (by decide) (fun hc6 => ?_) (fun hc6 => ?_)
    · have h := ip hc6 h
      refine so_bipush (v := (-2 : Int32)) (pc := 42) hX dX10_door_42 (by decide) ?_
      exact so_iretH (pc := 44) hX hR h rfl dX10_door_44
    · have h := iq hc6 h
      refine so_iload_n (pc := 20) hX dX10_door_20 3 rfl ?_
      refine so_iconst (v := (1 : Int32)) (pc := 21) hX dX10_door_21 (by decide) ?_
      refine so_bipush (v := (60 : Int32)) (pc := 22) hX dX10_door_22 (by decide) ?_
      obtain ⟨r8, μ7, hr, h⟩ := obd h
      refine so_callS (As := [.int v3, .int (1 : Int32), .int (60 : Int32)]) (rest := []) (pc := 24) hX dX10_door_24 (c_X10_isIn hL hr) mw_X10_isIn ms_X10_isIn ml_X10_174 rfl rfl (by omega) (by decide) (Nat.le_of_ble_eq_true rfl) ?_
      refine so_if_eq (pc := 27) hX 42 dX10_door_27 (by decide) (fun hc9 => ?_) (fun hc9 => ?_)
      · have h := ip hc9 h
        refine so_bipush (v := (-2 : Int32)) (pc := 42) hX dX10_door_42 (by decide) ?_
        exact so_iretH (pc := 44) hX hR h rfl dX10_door_44
      · have h := iq hc9 h
        refine so_iload (pc := 30) hX dX10_door_30 4 rfl ?_
        refine so_iconst (v := (0 : Int32)) (pc := 32) hX dX10_door_32 (by decide) ?_
        refine so_sipush (v := (200 : Int32)) (pc := 33) hX dX10_door_33 (by decide) ?_
        obtain ⟨r11, μ10, hr, h⟩ := obd h
        refine so_callS (As := [.int v4, .int (0 : Int32), .int (200 : Int32)]) (rest := []) (pc := 36) hX dX10_door_36 (c_X10_isIn hL hr) mw_X10_isIn ms_X10_isIn ml_X10_174 rfl rfl (by omega) (by decide) (Nat.le_of_ble_eq_true rfl) ?_
        refine so_if_ne (pc := 39) hX 45 dX10_door_39 (by decide) (fun hc12 => ?_) (fun hc12 => ?_)
        · have h := iq hc12 h
          refine so_aload_n (pc := 45) hX dX10_door_45 0 rfl ?_
          refine so_iconst (v := (0 : Int32)) (pc := 46) hX dX10_door_46 (by decide) ?_
          refine so_pI (pc := 47) hX dX10_door_47 fl_X10_218 fw_10_26 (ekM hL rfl) rfl rfl ?_
          refine so_aload_n (pc := 50) hX dX10_door_50 0 rfl ?_
          refine so_aload_n (pc := 51) hX dX10_door_51 0 rfl ?_
          refine so_gI (pc := 52) hX dX10_door_52 fl_X10_209 (ekM hL rfl) ?_
          refine so_pI (pc := 55) hX dX10_door_55 fl_X10_221 fw_10_27 (ekM hL rfl) rfl rfl ?_
          refine so_aload_n (pc := 58) hX dX10_door_58 0 rfl ?_
          refine so_iconst (v := (0 : Int32)) (pc := 59) hX dX10_door_59 (by decide) ?_
          refine so_pI (pc := 60) hX dX10_door_60 fl_X10_209 fw_10_25 (ekM hL rfl) rfl rfl ?_
          refine so_aload_n (pc := 63) hX dX10_door_63 0 rfl ?_
          refine so_iconst (v := (0 : Int32)) (pc := 64) hX dX10_door_64 (by decide) ?_
          refine so_pI (pc := 65) hX dX10_door_65 fl_X10_212 fw_10_28 (ekM hL rfl) rfl rfl ?_
          refine so_aload_n (pc := 68) hX dX10_door_68 0 rfl ?_
          refine so_iconst (v := (-1 : Int32)) (pc := 69) hX dX10_door_69 (by decide) ?_
          refine so_pI (pc := 70) hX dX10_door_70 fl_X10_215 fw_10_29 (ekM hL rfl) rfl rfl ?_
          refine so_aload_n (pc := 73) hX dX10_door_73 0 rfl ?_
          obtain ⟨μ13, hr, h⟩ := ob h
          refine so_callV (As := []) (rest := []) (pc := 74) hX dX10_door_74 (c_X10_draws hL hr) mw_X10_draws mv_X10_draws ml_X10_270 (ekM hL rfl) (by decide) rfl rfl rfl rfl (by omega) (by decide) (Nat.le_of_ble_eq_true rfl) ?_
          refine so_aload_n (pc := 77) hX dX10_door_77 0 rfl ?_
          refine so_aload_n (pc := 78) hX dX10_door_78 0 rfl ?_
          refine so_gI (pc := 79) hX dX10_door_79 fl_X10_212 (ekM hL rfl) ?_
          refine so_pI (pc := 82) hX dX10_door_82 fl_X10_273 fw_10_30 (ekM hL rfl) rfl rfl ?_
          refine so_aload_n (pc := 85) hX dX10_door_85 0 rfl ?_
          refine so_aload_n (pc := 86) hX dX10_door_86 0 rfl ?_
          refine so_gI (pc := 87) hX dX10_door_87 fl_X10_215 (ekM hL rfl) ?_
          refine so_pI (pc := 90) hX dX10_door_90 fl_X10_82 fw_10_31 (ekM hL rfl) rfl rfl ?_
          refine so_aload_n (pc := 93) hX dX10_door_93 0 rfl ?_
          refine so_gI (pc := 94) hX dX10_door_94 fl_X10_212 (ekM hL rfl) ?_
          refine so_if_eq (pc := 97) hX 102 dX10_door_97 (by decide) (fun hc14 => ?_) (fun hc14 => ?_)
          · have h := ip hc14 h
            refine so_aload_n (pc := 102) hX dX10_door_102 0 rfl ?_
            refine so_gR (pc := 103) hX 38 dX10_door_103 fl_X10_125 (ekM hL rfl) (erM hL rfl) ?_
            refine so_iload_n (pc := 106) hX dX10_door_106 1 rfl ?_
            refine so_aload_n (pc := 107) hX dX10_door_107 0 rfl ?_
            refine so_gI (pc := 108) hX dX10_door_108 fl_X10_236 (ekM hL rfl) ?_
            obtain ⟨μ15, hr, h⟩ := ob h
            refine so_iast (pc := 111) hX dX10_door_111 (ekM hL rfl) (elM hL rfl) hr ?_
            refine so_aload_n (pc := 112) hX dX10_door_112 0 rfl ?_
            refine so_gR (pc := 113) hX 39 dX10_door_113 fl_X10_128 (ekM hL rfl) (erM hL rfl) ?_
            refine so_iload_n (pc := 116) hX dX10_door_116 1 rfl ?_
            refine so_aload_n (pc := 117) hX dX10_door_117 0 rfl ?_
            refine so_gI (pc := 118) hX dX10_door_118 fl_X10_233 (ekM hL rfl) ?_
            obtain ⟨μ16, hr, h⟩ := ob h
            refine so_iast (pc := 121) hX dX10_door_121 (ekM hL rfl) (elM hL rfl) hr ?_
            refine so_iconst (v := (0 : Int32)) (pc := 122) hX dX10_door_122 (by decide) ?_
            refine so_istore (pc := 123) hX dX10_door_123 [(5, .int (0 : Int32)), (0, .ref (evA (xV X) 0)), (1, .int v1), (2, .int v2), (3, .int v3), (4, .int v4)] (by rw [hn]; decide) rfl ?_
            refine so_sub (pc := 125) (lv' := [(0, .ref (evA (xV X) 0)), (1, .int v1), (2, .int v2), (3, .int v3), (4, .int v4), (5, .int (0 : Int32))]) [1, 2, 3, 4, 5, 0] rfl ?_
            refine g_X10_door_L125 hX hL hn hR (fun μ20 h => ?_) FU _ _ h
            refine so_aload_n (pc := 157) hX dX10_door_157 0 rfl ?_
            refine so_gR (pc := 158) hX 41 dX10_door_158 fl_X10_134 (ekM hL rfl) (erM hL rfl) ?_
            refine so_iload_n (pc := 161) hX dX10_door_161 1 rfl ?_
            refine so_iload_n (pc := 162) hX dX10_door_162 2 rfl ?_
            obtain ⟨μ21, hr, h⟩ := ob h
            refine so_iast (pc := 163) hX dX10_door_163 (ekM hL rfl) (elM hL rfl) hr ?_
            refine so_aload_n (pc := 164) hX dX10_door_164 0 rfl ?_
            refine so_gR (pc := 165) hX 42 dX10_door_165 fl_X10_137 (ekM hL rfl) (erM hL rfl) ?_
            refine so_iload_n (pc := 168) hX dX10_door_168 1 rfl ?_
            refine so_iload_n (pc := 169) hX dX10_door_169 3 rfl ?_
            obtain ⟨μ22, hr, h⟩ := ob h
            refine so_iast (pc := 170) hX dX10_door_170 (ekM hL rfl) (elM hL rfl) hr ?_
            refine so_aload_n (pc := 171) hX dX10_door_171 0 rfl ?_
            refine so_gR (pc := 172) hX 43 dX10_door_172 fl_X10_140 (ekM hL rfl) (erM hL rfl) ?_
            refine so_iload_n (pc := 175) hX dX10_door_175 1 rfl ?_
            refine so_iload (pc := 176) hX dX10_door_176 4 rfl ?_
            obtain ⟨μ23, hr, h⟩ := ob h
            refine so_iast (pc := 178) hX dX10_door_178 (ekM hL rfl) (elM hL rfl) hr ?_
            refine so_aload_n (pc := 179) hX dX10_door_179 0 rfl ?_
            refine so_gR (pc := 180) hX 44 dX10_door_180 fl_X10_143 (ekM hL rfl) (erM hL rfl) ?_
            refine so_iload_n (pc := 183) hX dX10_door_183 1 rfl ?_
            refine so_iconst (v := (-1 : Int32)) (pc := 184) hX dX10_door_184 (by decide) ?_
            obtain ⟨μ24, hr, h⟩ := ob h
            refine so_iast (pc := 185) hX dX10_door_185 (ekM hL rfl) (elM hL rfl) hr ?_
            refine so_iconst (v := (0 : Int32)) (pc := 186) hX dX10_door_186 (by decide) ?_
            refine so_istore (pc := 187) hX dX10_door_187 [(5, .int (0 : Int32)), (0, .ref (evA (xV X) 0)), (1, .int v1), (2, .int v2), (3, .int v3), (4, .int v4)] (by rw [hn]; decide) rfl ?_
            refine so_sub (pc := 189) (lv' := [(0, .ref (evA (xV X) 0)), (1, .int v1), (5, .int (0 : Int32))]) [1, 2, 0] rfl ?_
            refine g_X10_door_L189 hX hL hn hR (fun μ29 h => ?_) FU _ _ h
            refine so_aload_n (pc := 223) hX dX10_door_223 0 rfl ?_
            refine so_gI (pc := 224) hX dX10_door_224 fl_X10_236 (ekM hL rfl) ?_
            refine so_aload_n (pc := 227) hX dX10_door_227 0 rfl ?_
            refine so_gI (pc := 228) hX dX10_door_228 fl_X10_233 (ekM hL rfl) ?_
            refine so_imul (pc := 231) hX dX10_door_231 ?_
            exact so_iretH (pc := 232) hX hR h rfl dX10_door_232
          · have h := iq hc14 h
            refine so_iconst (v := (-1 : Int32)) (pc := 100) hX dX10_door_100 (by decide) ?_
            exact so_iretH (pc := 101) hX hR h rfl dX10_door_101
        · have h := ip hc12 h
          refine so_bipush (v := (-2 : Int32)) (pc := 42) hX dX10_door_42 (by decide) ?_
          exact so_iretH (pc := 44) hX hR h rfl dX10_door_44
set_option maxHeartbeats 4000000 in
set_option maxRecDepth 100000 in
theorem c_X10_fault {l : Launch} {V : Ev} (hL : V.2.2.2 = lyM) {v1 : Int32}  {μ : Mem} {rZ : Int32} {μZ : Mem} (h : f_X10_fault v1 μ = some (rZ, μZ)) : CT l V yX10_fault cX10_fault 2 (some .int) 0 [.ref (evA V 0), .int v1] μ μZ (some (.int rZ)) := by
  refine so_met [(0, .ref (evA V 0)), (1, .int v1)] (by decide) (Nat.le_of_ble_eq_true rfl) (evMn hL) rfl ?_
  intro X hl hV hn hX hR
  subst hl hV
  unfold f_X10_fault at h
  refine so_iload_n (pc := 0) hX dX10_fault_0 1 rfl ?_
  refine so_if_ne (pc := 1) hX 11 dX10_fault_1 (by decide) (fun hc1 => ?_) (fun hc1 => ?_)
  · have h := iq hc1 h
    refine so_iload_n (pc := 11) hX dX10_fault_11 1 rfl ?_
    refine so_iconst (v := (1 : Int32)) (pc := 12) hX dX10_fault_12 (by decide) ?_
    refine so_icmp_ne (pc := 13) hX 23 dX10_fault_13 (by decide) (fun hc2 => ?_) (fun hc2 => ?_)
    · have h := iq hc2 h
      refine so_iconst (v := (-1 : Int32)) (pc := 23) hX dX10_fault_23 (by decide) ?_
      exact so_iretH (pc := 24) hX hR h rfl dX10_fault_24
    · have h := ip hc2 h
      refine so_aload_n (pc := 16) hX dX10_fault_16 0 rfl ?_
      refine so_gI (pc := 17) hX dX10_fault_17 fl_X10_82 (ekM hL rfl) ?_
      refine so_goto (pc := 20) hX 24 dX10_fault_20 (by decide) ?_
      exact so_iretH (pc := 24) hX hR h rfl dX10_fault_24
  · have h := ip hc1 h
    refine so_aload_n (pc := 4) hX dX10_fault_4 0 rfl ?_
    refine so_gI (pc := 5) hX dX10_fault_5 fl_X10_273 (ekM hL rfl) ?_
    refine so_goto (pc := 8) hX 24 dX10_fault_8 (by decide) ?_
    exact so_iretH (pc := 24) hX hR h rfl dX10_fault_24
set_option maxHeartbeats 4000000 in
set_option maxRecDepth 100000 in
theorem c_X10_pieceOf {l : Launch} {V : Ev} (hL : V.2.2.2 = lyM) {v1 : Int32} {v2 : Int32} {v3 : Int32}  {μ : Mem} {rZ : Int32} {μZ : Mem} (h : f_X10_pieceOf v1 v2 v3 μ = some (rZ, μZ)) : CT l V yX10_pieceOf cX10_pieceOf 4 (some .int) 0 [.ref (evA V 0), .int v1, .int v2, .int v3] μ μZ (some (.int rZ)) := by
  refine so_met [(0, .ref (evA V 0)), (1, .int v1), (2, .int v2), (3, .int v3)] (by decide) (Nat.le_of_ble_eq_true rfl) (evMn hL) rfl ?_
  intro X hl hV hn hX hR
  subst hl hV
  unfold f_X10_pieceOf at h
  refine so_aload_n (pc := 0) hX dX10_pieceOf_0 0 rfl ?_
  refine so_gR (pc := 1) hX 40 dX10_pieceOf_1 fl_X10_131 (ekM hL rfl) (erM hL rfl) ?_
  refine so_bipush (v := (64 : Int32)) (pc := 4) hX dX10_pieceOf_4 (by decide) ?_
  refine so_iload_n (pc := 6) hX dX10_pieceOf_6 1 rfl ?_
  refine so_imul (pc := 7) hX dX10_pieceOf_7 ?_
  refine so_bipush (v := (8 : Int32)) (pc := 8) hX dX10_pieceOf_8 (by decide) ?_
  refine so_iload_n (pc := 10) hX dX10_pieceOf_10 3 rfl ?_
  refine so_imul (pc := 11) hX dX10_pieceOf_11 ?_
  refine so_iadd (pc := 12) hX dX10_pieceOf_12 ?_
  refine so_iload_n (pc := 13) hX dX10_pieceOf_13 2 rfl ?_
  refine so_iadd (pc := 14) hX dX10_pieceOf_14 ?_
  obtain ⟨e1, hr, h⟩ := ob h
  refine so_iald (pc := 15) hX dX10_pieceOf_15 (ekM hL rfl) (elM hL rfl) hr ?_
  exact so_iretH (pc := 16) hX hR h rfl dX10_pieceOf_16
set_option maxHeartbeats 4000000 in
set_option maxRecDepth 100000 in
theorem c_X10_jointOf {l : Launch} {V : Ev} (hL : V.2.2.2 = lyM) {v0 : Int32} {v1 : Int32} {v2 : Int32}  {μ : Mem} {rZ : Int32} {μZ : Mem} (h : f_X10_jointOf v0 v1 v2 μ = some (rZ, μZ)) : CT l V yX10_jointOf cX10_jointOf 7 (some .int) 0 [.int v0, .int v1, .int v2] μ μZ (some (.int rZ)) := by
  refine so_met [(0, .int v0), (1, .int v1), (2, .int v2)] (by decide) (Nat.le_of_ble_eq_true rfl) (evMn hL) rfl ?_
  intro X hl hV hn hX hR
  subst hl hV
  unfold f_X10_jointOf at h
  refine so_iload_n (pc := 0) hX dX10_jointOf_0 1 rfl ?_
  refine so_bipush (v := (15 : Int32)) (pc := 1) hX dX10_jointOf_1 (by decide) ?_
  refine so_iand (pc := 3) hX dX10_jointOf_3 ?_
  refine so_iload_n (pc := 4) hX dX10_jointOf_4 0 rfl ?_
  refine so_bipush (v := (15 : Int32)) (pc := 5) hX dX10_jointOf_5 (by decide) ?_
  refine so_iand (pc := 7) hX dX10_jointOf_7 ?_
  refine so_isub (pc := 8) hX dX10_jointOf_8 ?_
  refine so_istore_n (pc := 9) hX dX10_jointOf_9 [(3, .int ((v1 &&& (15 : Int32)) - (v0 &&& (15 : Int32)))), (0, .int v0), (1, .int v1), (2, .int v2)] (by rw [hn]; decide) rfl ?_
  refine so_iload_n (pc := 10) hX dX10_jointOf_10 1 rfl ?_
  refine so_iload_n (pc := 11) hX dX10_jointOf_11 2 rfl ?_
  refine so_ixor (pc := 12) hX dX10_jointOf_12 ?_
  refine so_bipush (v := (16 : Int32)) (pc := 13) hX dX10_jointOf_13 (by decide) ?_
  refine so_iand (pc := 15) hX dX10_jointOf_15 ?_
  refine so_if_eq (pc := 16) hX 23 dX10_jointOf_16 (by decide) (fun hc1 => ?_) (fun hc1 => ?_)
  · have h := ip hc1 h
    refine so_iconst (v := (0 : Int32)) (pc := 23) hX dX10_jointOf_23 (by decide) ?_
    refine so_istore (pc := 24) hX dX10_jointOf_24 [(4, .int (0 : Int32)), (3, .int ((v1 &&& (15 : Int32)) - (v0 &&& (15 : Int32)))), (0, .int v0), (1, .int v1), (2, .int v2)] (by rw [hn]; decide) rfl ?_
    refine so_iload_n (pc := 26) hX dX10_jointOf_26 2 rfl ?_
    refine so_iload_n (pc := 27) hX dX10_jointOf_27 3 rfl ?_
    refine so_ixor (pc := 28) hX dX10_jointOf_28 ?_
    refine so_bipush (v := (32 : Int32)) (pc := 29) hX dX10_jointOf_29 (by decide) ?_
    refine so_iand (pc := 31) hX dX10_jointOf_31 ?_
    refine so_if_eq (pc := 32) hX 39 dX10_jointOf_32 (by decide) (fun hc2 => ?_) (fun hc2 => ?_)
    · have h := ip hc2 h
      refine so_iconst (v := (0 : Int32)) (pc := 39) hX dX10_jointOf_39 (by decide) ?_
      refine so_istore (pc := 40) hX dX10_jointOf_40 [(5, .int (0 : Int32)), (4, .int (0 : Int32)), (3, .int ((v1 &&& (15 : Int32)) - (v0 &&& (15 : Int32)))), (0, .int v0), (1, .int v1), (2, .int v2)] (by rw [hn]; decide) rfl ?_
      refine so_iload_n (pc := 42) hX dX10_jointOf_42 2 rfl ?_
      refine so_iconst (v := (1 : Int32)) (pc := 43) hX dX10_jointOf_43 (by decide) ?_
      refine so_icmp_eq (pc := 44) hX 52 dX10_jointOf_44 (by decide) (fun hc3 => ?_) (fun hc3 => ?_)
      · have h := ip hc3 h
        refine so_iconst (v := (1 : Int32)) (pc := 52) hX dX10_jointOf_52 (by decide) ?_
        refine so_goto (pc := 53) hX 57 dX10_jointOf_53 (by decide) ?_
        refine so_istore (pc := 57) hX dX10_jointOf_57 [(6, .int (1 : Int32)), (5, .int (0 : Int32)), (4, .int (0 : Int32)), (3, .int ((v1 &&& (15 : Int32)) - (v0 &&& (15 : Int32)))), (0, .int v0), (1, .int v1), (2, .int v2)] (by rw [hn]; decide) rfl ?_
        refine so_iload_n (pc := 59) hX dX10_jointOf_59 6 rfl ?_
        refine so_if_eq (pc := 60) hX 84 dX10_jointOf_60 (by decide) (fun hc4 => ?_) (fun hc4 => ?_)
        · have h := ip hc4 h
          refine so_iload (pc := 84) hX dX10_jointOf_84 0 rfl ?_
          refine so_if_eq (pc := 86) hX 101 dX10_jointOf_86 (by decide) (fun hz => absurd hz (by decide)) (fun _ => ?_)
          refine so_iload (pc := 89) hX dX10_jointOf_89 1 rfl ?_
          refine so_if_ne (pc := 91) hX 101 dX10_jointOf_91 (by decide) (fun hz => absurd hz (by decide)) (fun _ => ?_)
          refine so_iload (pc := 94) hX dX10_jointOf_94 2 rfl ?_
          refine so_if_eq (pc := 96) hX 101 dX10_jointOf_96 (by decide) (fun _ => ?_) (fun hz => absurd hz (by decide))
          refine so_iload (pc := 101) hX dX10_jointOf_101 1 rfl ?_
          refine so_if_ne (pc := 103) hX 111 dX10_jointOf_103 (by decide) (fun hz => absurd hz (by decide)) (fun _ => ?_)
          refine so_iload (pc := 106) hX dX10_jointOf_106 2 rfl ?_
          refine so_if_eq (pc := 108) hX 113 dX10_jointOf_108 (by decide) (fun _ => ?_) (fun hz => absurd hz (by decide))
          refine so_iload_n (pc := 113) hX dX10_jointOf_113 4 rfl ?_
          refine so_bipush (v := (16 : Int32)) (pc := 114) hX dX10_jointOf_114 (by decide) ?_
          refine so_iand (pc := 116) hX dX10_jointOf_116 ?_
          refine so_if_ne (pc := 117) hX 133 dX10_jointOf_117 (by decide) (fun hc5 => ?_) (fun hc5 => ?_)
          · have h := iq hc5 h
            refine so_iload_n (pc := 133) hX dX10_jointOf_133 3 rfl ?_
            refine so_iconst (v := (-1 : Int32)) (pc := 134) hX dX10_jointOf_134 (by decide) ?_
            refine so_icmp_ne (pc := 135) hX 142 dX10_jointOf_135 (by decide) (fun hc6 => ?_) (fun hc6 => ?_)
            · have h := iq hc6 h
              refine so_iconst (v := (0 : Int32)) (pc := 142) hX dX10_jointOf_142 (by decide) ?_
              exact so_iretH (pc := 143) hX hR h rfl dX10_jointOf_143
            · have h := ip hc6 h
              refine so_iconst (v := (1 : Int32)) (pc := 138) hX dX10_jointOf_138 (by decide) ?_
              refine so_goto (pc := 139) hX 143 dX10_jointOf_139 (by decide) ?_
              exact so_iretH (pc := 143) hX hR h rfl dX10_jointOf_143
          · have h := ip hc5 h
            refine so_iload_n (pc := 120) hX dX10_jointOf_120 3 rfl ?_
            refine so_iconst (v := (1 : Int32)) (pc := 121) hX dX10_jointOf_121 (by decide) ?_
            refine so_icmp_ne (pc := 122) hX 129 dX10_jointOf_122 (by decide) (fun hz => absurd hc3 hz) (fun _ => ?_)
            refine so_iconst (v := (1 : Int32)) (pc := 125) hX dX10_jointOf_125 (by decide) ?_
            refine so_goto (pc := 126) hX 143 dX10_jointOf_126 (by decide) ?_
            exact so_iretH (pc := 143) hX hR h rfl dX10_jointOf_143
        · have h := iq hc4 h
          refine so_iload (pc := 63) hX dX10_jointOf_63 0 rfl ?_
          refine so_if_eq (pc := 65) hX 82 dX10_jointOf_65 (by decide) (fun hz => absurd hz (by decide)) (fun _ => ?_)
          refine so_iload (pc := 68) hX dX10_jointOf_68 2 rfl ?_
          refine so_if_ne (pc := 70) hX 82 dX10_jointOf_70 (by decide) (fun hz => absurd hz (by decide)) (fun _ => ?_)
          refine so_iload (pc := 73) hX dX10_jointOf_73 1 rfl ?_
          refine so_if_eq (pc := 75) hX 82 dX10_jointOf_75 (by decide) (fun _ => ?_) (fun hz => absurd hz (by decide))
          refine so_iconst (v := (0 : Int32)) (pc := 82) hX dX10_jointOf_82 (by decide) ?_
          exact so_iretH (pc := 83) hX hR h rfl dX10_jointOf_83
      · have h := iq hc3 h
        refine so_iload_n (pc := 47) hX dX10_jointOf_47 2 rfl ?_
        refine so_iconst (v := (-1 : Int32)) (pc := 48) hX dX10_jointOf_48 (by decide) ?_
        refine so_icmp_ne (pc := 49) hX 56 dX10_jointOf_49 (by decide) (fun hc7 => ?_) (fun hc7 => ?_)
        · have h := iq hc7 h
          refine so_iconst (v := (0 : Int32)) (pc := 56) hX dX10_jointOf_56 (by decide) ?_
          refine so_istore (pc := 57) hX dX10_jointOf_57 [(6, .int (0 : Int32)), (5, .int (0 : Int32)), (4, .int (0 : Int32)), (3, .int ((v1 &&& (15 : Int32)) - (v0 &&& (15 : Int32)))), (0, .int v0), (1, .int v1), (2, .int v2)] (by rw [hn]; decide) rfl ?_
          refine so_iload_n (pc := 59) hX dX10_jointOf_59 6 rfl ?_
          refine so_if_eq (pc := 60) hX 84 dX10_jointOf_60 (by decide) (fun hc10 => ?_) (fun hc10 => ?_)
          · have h := ip hc10 h
            refine so_iload (pc := 84) hX dX10_jointOf_84 0 rfl ?_
            refine so_if_eq (pc := 86) hX 101 dX10_jointOf_86 (by decide) (fun _ => ?_) (fun hz => absurd hz (by decide))
            refine so_iload (pc := 101) hX dX10_jointOf_101 1 rfl ?_
            refine so_if_ne (pc := 103) hX 111 dX10_jointOf_103 (by decide) (fun hz => absurd hz (by decide)) (fun _ => ?_)
            refine so_iload (pc := 106) hX dX10_jointOf_106 2 rfl ?_
            refine so_if_eq (pc := 108) hX 113 dX10_jointOf_108 (by decide) (fun _ => ?_) (fun hz => absurd hz (by decide))
            refine so_iload_n (pc := 113) hX dX10_jointOf_113 4 rfl ?_
            refine so_bipush (v := (16 : Int32)) (pc := 114) hX dX10_jointOf_114 (by decide) ?_
            refine so_iand (pc := 116) hX dX10_jointOf_116 ?_
            refine so_if_ne (pc := 117) hX 133 dX10_jointOf_117 (by decide) (fun hc11 => ?_) (fun hc11 => ?_)
            · have h := iq hc11 h
              refine so_iload_n (pc := 133) hX dX10_jointOf_133 3 rfl ?_
              refine so_iconst (v := (-1 : Int32)) (pc := 134) hX dX10_jointOf_134 (by decide) ?_
              refine so_icmp_ne (pc := 135) hX 142 dX10_jointOf_135 (by decide) (fun _ => ?_) (fun hz => absurd hz hc7)
              refine so_iconst (v := (0 : Int32)) (pc := 142) hX dX10_jointOf_142 (by decide) ?_
              exact so_iretH (pc := 143) hX hR h rfl dX10_jointOf_143
            · have h := ip hc11 h
              refine so_iload_n (pc := 120) hX dX10_jointOf_120 3 rfl ?_
              refine so_iconst (v := (1 : Int32)) (pc := 121) hX dX10_jointOf_121 (by decide) ?_
              refine so_icmp_ne (pc := 122) hX 129 dX10_jointOf_122 (by decide) (fun _ => ?_) (fun hz => absurd hz hc3)
              refine so_iconst (v := (0 : Int32)) (pc := 129) hX dX10_jointOf_129 (by decide) ?_
              refine so_goto (pc := 130) hX 143 dX10_jointOf_130 (by decide) ?_
              exact so_iretH (pc := 143) hX hR h rfl dX10_jointOf_143
          · have h := iq hc10 h
            refine so_iload (pc := 63) hX dX10_jointOf_63 0 rfl ?_
            refine so_if_eq (pc := 65) hX 82 dX10_jointOf_65 (by decide) (fun _ => ?_) (fun hz => absurd hz (by decide))
            refine so_iconst (v := (0 : Int32)) (pc := 82) hX dX10_jointOf_82 (by decide) ?_
            exact so_iretH (pc := 83) hX hR h rfl dX10_jointOf_83
        · have h := ip hc7 h
          refine so_iconst (v := (1 : Int32)) (pc := 52) hX dX10_jointOf_52 (by decide) ?_
          refine so_goto (pc := 53) hX 57 dX10_jointOf_53 (by decide) ?_
          refine so_istore (pc := 57) hX dX10_jointOf_57 [(6, .int (1 : Int32)), (5, .int (0 : Int32)), (4, .int (0 : Int32)), (3, .int ((v1 &&& (15 : Int32)) - (v0 &&& (15 : Int32)))), (0, .int v0), (1, .int v1), (2, .int v2)] (by rw [hn]; decide) rfl ?_
          refine so_iload_n (pc := 59) hX dX10_jointOf_59 6 rfl ?_
          refine so_if_eq (pc := 60) hX 84 dX10_jointOf_60 (by decide) (fun hc8 => ?_) (fun hc8 => ?_)
          · have h := ip hc8 h
            refine so_iload (pc := 84) hX dX10_jointOf_84 0 rfl ?_
            refine so_if_eq (pc := 86) hX 101 dX10_jointOf_86 (by decide) (fun hz => absurd hz (by decide)) (fun _ => ?_)
            refine so_iload (pc := 89) hX dX10_jointOf_89 1 rfl ?_
            refine so_if_ne (pc := 91) hX 101 dX10_jointOf_91 (by decide) (fun hz => absurd hz (by decide)) (fun _ => ?_)
            refine so_iload (pc := 94) hX dX10_jointOf_94 2 rfl ?_
            refine so_if_eq (pc := 96) hX 101 dX10_jointOf_96 (by decide) (fun _ => ?_) (fun hz => absurd hz (by decide))
            refine so_iload (pc := 101) hX dX10_jointOf_101 1 rfl ?_
            refine so_if_ne (pc := 103) hX 111 dX10_jointOf_103 (by decide) (fun hz => absurd hz (by decide)) (fun _ => ?_)
            refine so_iload (pc := 106) hX dX10_jointOf_106 2 rfl ?_
            refine so_if_eq (pc := 108) hX 113 dX10_jointOf_108 (by decide) (fun _ => ?_) (fun hz => absurd hz (by decide))
            refine so_iload_n (pc := 113) hX dX10_jointOf_113 4 rfl ?_
            refine so_bipush (v := (16 : Int32)) (pc := 114) hX dX10_jointOf_114 (by decide) ?_
            refine so_iand (pc := 116) hX dX10_jointOf_116 ?_
            refine so_if_ne (pc := 117) hX 133 dX10_jointOf_117 (by decide) (fun hc9 => ?_) (fun hc9 => ?_)
            · have h := iq hc9 h
              refine so_iload_n (pc := 133) hX dX10_jointOf_133 3 rfl ?_
              refine so_iconst (v := (-1 : Int32)) (pc := 134) hX dX10_jointOf_134 (by decide) ?_
              refine so_icmp_ne (pc := 135) hX 142 dX10_jointOf_135 (by decide) (fun hz => absurd hc7 hz) (fun _ => ?_)
              refine so_iconst (v := (1 : Int32)) (pc := 138) hX dX10_jointOf_138 (by decide) ?_
              refine so_goto (pc := 139) hX 143 dX10_jointOf_139 (by decide) ?_
              exact so_iretH (pc := 143) hX hR h rfl dX10_jointOf_143
            · have h := ip hc9 h
              refine so_iload_n (pc := 120) hX dX10_jointOf_120 3 rfl ?_
              refine so_iconst (v := (1 : Int32)) (pc := 121) hX dX10_jointOf_121 (by decide) ?_
              refine so_icmp_ne (pc := 122) hX 129 dX10_jointOf_122 (by decide) (fun _ => ?_) (fun hz => absurd hz hc3)
              refine so_iconst (v := (0 : Int32)) (pc := 129) hX dX10_jointOf_129 (by decide) ?_
              refine so_goto (pc := 130) hX 143 dX10_jointOf_130 (by decide) ?_
              exact so_iretH (pc := 143) hX hR h rfl dX10_jointOf_143
          · have h := iq hc8 h
            refine so_iload (pc := 63) hX dX10_jointOf_63 0 rfl ?_
            refine so_if_eq (pc := 65) hX 82 dX10_jointOf_65 (by decide) (fun hz => absurd hz (by decide)) (fun _ => ?_)
            refine so_iload (pc := 68) hX dX10_jointOf_68 2 rfl ?_
            refine so_if_ne (pc := 70) hX 82 dX10_jointOf_70 (by decide) (fun hz => absurd hz (by decide)) (fun _ => ?_)
            refine so_iload (pc := 73) hX dX10_jointOf_73 1 rfl ?_
            refine so_if_eq (pc := 75) hX 82 dX10_jointOf_75 (by decide) (fun _ => ?_) (fun hz => absurd hz (by decide))
            refine so_iconst (v := (0 : Int32)) (pc := 82) hX dX10_jointOf_82 (by decide) ?_
            exact so_iretH (pc := 83) hX hR h rfl dX10_jointOf_83
    · have h := iq hc2 h
      refine so_iconst (v := (1 : Int32)) (pc := 35) hX dX10_jointOf_35 (by decide) ?_
      refine so_goto (pc := 36) hX 40 dX10_jointOf_36 (by decide) ?_
      refine so_istore (pc := 40) hX dX10_jointOf_40 [(5, .int (1 : Int32)), (4, .int (0 : Int32)), (3, .int ((v1 &&& (15 : Int32)) - (v0 &&& (15 : Int32)))), (0, .int v0), (1, .int v1), (2, .int v2)] (by rw [hn]; decide) rfl ?_
      refine so_iload_n (pc := 42) hX dX10_jointOf_42 2 rfl ?_
      refine so_iconst (v := (1 : Int32)) (pc := 43) hX dX10_jointOf_43 (by decide) ?_
      refine so_icmp_eq (pc := 44) hX 52 dX10_jointOf_44 (by decide) (fun hc12 => ?_) (fun hc12 => ?_)
      · have h := ip hc12 h
        refine so_iconst (v := (1 : Int32)) (pc := 52) hX dX10_jointOf_52 (by decide) ?_
        refine so_goto (pc := 53) hX 57 dX10_jointOf_53 (by decide) ?_
        refine so_istore (pc := 57) hX dX10_jointOf_57 [(6, .int (1 : Int32)), (5, .int (1 : Int32)), (4, .int (0 : Int32)), (3, .int ((v1 &&& (15 : Int32)) - (v0 &&& (15 : Int32)))), (0, .int v0), (1, .int v1), (2, .int v2)] (by rw [hn]; decide) rfl ?_
        refine so_iload_n (pc := 59) hX dX10_jointOf_59 6 rfl ?_
        refine so_if_eq (pc := 60) hX 84 dX10_jointOf_60 (by decide) (fun hc13 => ?_) (fun hc13 => ?_)
        · have h := ip hc13 h
          refine so_iload (pc := 84) hX dX10_jointOf_84 0 rfl ?_
          refine so_if_eq (pc := 86) hX 101 dX10_jointOf_86 (by decide) (fun hz => absurd hz (by decide)) (fun _ => ?_)
          refine so_iload (pc := 89) hX dX10_jointOf_89 1 rfl ?_
          refine so_if_ne (pc := 91) hX 101 dX10_jointOf_91 (by decide) (fun _ => ?_) (fun hz => absurd hz (by decide))
          refine so_iload (pc := 101) hX dX10_jointOf_101 1 rfl ?_
          refine so_if_ne (pc := 103) hX 111 dX10_jointOf_103 (by decide) (fun _ => ?_) (fun hz => absurd hz (by decide))
          refine so_iconst (v := (0 : Int32)) (pc := 111) hX dX10_jointOf_111 (by decide) ?_
          exact so_iretH (pc := 112) hX hR h rfl dX10_jointOf_112
        · have h := iq hc13 h
          refine so_iload (pc := 63) hX dX10_jointOf_63 0 rfl ?_
          refine so_if_eq (pc := 65) hX 82 dX10_jointOf_65 (by decide) (fun hz => absurd hz (by decide)) (fun _ => ?_)
          refine so_iload (pc := 68) hX dX10_jointOf_68 2 rfl ?_
          refine so_if_ne (pc := 70) hX 82 dX10_jointOf_70 (by decide) (fun hz => absurd hz (by decide)) (fun _ => ?_)
          refine so_iload (pc := 73) hX dX10_jointOf_73 1 rfl ?_
          refine so_if_eq (pc := 75) hX 82 dX10_jointOf_75 (by decide) (fun hz => absurd hz (by decide)) (fun _ => ?_)
          refine so_iconst (v := (2 : Int32)) (pc := 78) hX dX10_jointOf_78 (by decide) ?_
          refine so_goto (pc := 79) hX 83 dX10_jointOf_79 (by decide) ?_
          exact so_iretH (pc := 83) hX hR h rfl dX10_jointOf_83
      · have h := iq hc12 h
        refine so_iload_n (pc := 47) hX dX10_jointOf_47 2 rfl ?_
        refine so_iconst (v := (-1 : Int32)) (pc := 48) hX dX10_jointOf_48 (by decide) ?_
        refine so_icmp_ne (pc := 49) hX 56 dX10_jointOf_49 (by decide) (fun hc14 => ?_) (fun hc14 => ?_)
        · have h := iq hc14 h
          refine so_iconst (v := (0 : Int32)) (pc := 56) hX dX10_jointOf_56 (by decide) ?_
          refine so_istore (pc := 57) hX dX10_jointOf_57 [(6, .int (0 : Int32)), (5, .int (1 : Int32)), (4, .int (0 : Int32)), (3, .int ((v1 &&& (15 : Int32)) - (v0 &&& (15 : Int32)))), (0, .int v0), (1, .int v1), (2, .int v2)] (by rw [hn]; decide) rfl ?_
          refine so_iload_n (pc := 59) hX dX10_jointOf_59 6 rfl ?_
          refine so_if_eq (pc := 60) hX 84 dX10_jointOf_60 (by decide) (fun hc16 => ?_) (fun hc16 => ?_)
          · have h := ip hc16 h
            refine so_iload (pc := 84) hX dX10_jointOf_84 0 rfl ?_
            refine so_if_eq (pc := 86) hX 101 dX10_jointOf_86 (by decide) (fun _ => ?_) (fun hz => absurd hz (by decide))
            refine so_iload (pc := 101) hX dX10_jointOf_101 1 rfl ?_
            refine so_if_ne (pc := 103) hX 111 dX10_jointOf_103 (by decide) (fun _ => ?_) (fun hz => absurd hz (by decide))
            refine so_iconst (v := (0 : Int32)) (pc := 111) hX dX10_jointOf_111 (by decide) ?_
            exact so_iretH (pc := 112) hX hR h rfl dX10_jointOf_112
          · have h := iq hc16 h
            refine so_iload (pc := 63) hX dX10_jointOf_63 0 rfl ?_
            refine so_if_eq (pc := 65) hX 82 dX10_jointOf_65 (by decide) (fun _ => ?_) (fun hz => absurd hz (by decide))
            refine so_iconst (v := (0 : Int32)) (pc := 82) hX dX10_jointOf_82 (by decide) ?_
            exact so_iretH (pc := 83) hX hR h rfl dX10_jointOf_83
        · have h := ip hc14 h
          refine so_iconst (v := (1 : Int32)) (pc := 52) hX dX10_jointOf_52 (by decide) ?_
          refine so_goto (pc := 53) hX 57 dX10_jointOf_53 (by decide) ?_
          refine so_istore (pc := 57) hX dX10_jointOf_57 [(6, .int (1 : Int32)), (5, .int (1 : Int32)), (4, .int (0 : Int32)), (3, .int ((v1 &&& (15 : Int32)) - (v0 &&& (15 : Int32)))), (0, .int v0), (1, .int v1), (2, .int v2)] (by rw [hn]; decide) rfl ?_
          refine so_iload_n (pc := 59) hX dX10_jointOf_59 6 rfl ?_
          refine so_if_eq (pc := 60) hX 84 dX10_jointOf_60 (by decide) (fun hc15 => ?_) (fun hc15 => ?_)
          · have h := ip hc15 h
            refine so_iload (pc := 84) hX dX10_jointOf_84 0 rfl ?_
            refine so_if_eq (pc := 86) hX 101 dX10_jointOf_86 (by decide) (fun hz => absurd hz (by decide)) (fun _ => ?_)
            refine so_iload (pc := 89) hX dX10_jointOf_89 1 rfl ?_
            refine so_if_ne (pc := 91) hX 101 dX10_jointOf_91 (by decide) (fun _ => ?_) (fun hz => absurd hz (by decide))
            refine so_iload (pc := 101) hX dX10_jointOf_101 1 rfl ?_
            refine so_if_ne (pc := 103) hX 111 dX10_jointOf_103 (by decide) (fun _ => ?_) (fun hz => absurd hz (by decide))
            refine so_iconst (v := (0 : Int32)) (pc := 111) hX dX10_jointOf_111 (by decide) ?_
            exact so_iretH (pc := 112) hX hR h rfl dX10_jointOf_112
          · have h := iq hc15 h
            refine so_iload (pc := 63) hX dX10_jointOf_63 0 rfl ?_
            refine so_if_eq (pc := 65) hX 82 dX10_jointOf_65 (by decide) (fun hz => absurd hz (by decide)) (fun _ => ?_)
            refine so_iload (pc := 68) hX dX10_jointOf_68 2 rfl ?_
            refine so_if_ne (pc := 70) hX 82 dX10_jointOf_70 (by decide) (fun hz => absurd hz (by decide)) (fun _ => ?_)
            refine so_iload (pc := 73) hX dX10_jointOf_73 1 rfl ?_
            refine so_if_eq (pc := 75) hX 82 dX10_jointOf_75 (by decide) (fun hz => absurd hz (by decide)) (fun _ => ?_)
            refine so_iconst (v := (2 : Int32)) (pc := 78) hX dX10_jointOf_78 (by decide) ?_
            refine so_goto (pc := 79) hX 83 dX10_jointOf_79 (by decide) ?_
            exact so_iretH (pc := 83) hX hR h rfl dX10_jointOf_83
  · have h := iq hc1 h
    refine so_iconst (v := (1 : Int32)) (pc := 19) hX dX10_jointOf_19 (by decide) ?_
    refine so_goto (pc := 20) hX 24 dX10_jointOf_20 (by decide) ?_
    refine so_istore (pc := 24) hX dX10_jointOf_24 [(4, .int (1 : Int32)), (3, .int ((v1 &&& (15 : Int32)) - (v0 &&& (15 : Int32)))), (0, .int v0), (1, .int v1), (2, .int v2)] (by rw [hn]; decide) rfl ?_
    refine so_iload_n (pc := 26) hX dX10_jointOf_26 2 rfl ?_
    refine so_iload_n (pc := 27) hX dX10_jointOf_27 3 rfl ?_
    refine so_ixor (pc := 28) hX dX10_jointOf_28 ?_
    refine so_bipush (v := (32 : Int32)) (pc := 29) hX dX10_jointOf_29 (by decide) ?_
    refine so_iand (pc := 31) hX dX10_jointOf_31 ?_
    refine so_if_eq (pc := 32) hX 39 dX10_jointOf_32 (by decide) (fun hc17 => ?_) (fun hc17 => ?_)
    · have h := ip hc17 h
      refine so_iconst (v := (0 : Int32)) (pc := 39) hX dX10_jointOf_39 (by decide) ?_
      refine so_istore (pc := 40) hX dX10_jointOf_40 [(5, .int (0 : Int32)), (4, .int (1 : Int32)), (3, .int ((v1 &&& (15 : Int32)) - (v0 &&& (15 : Int32)))), (0, .int v0), (1, .int v1), (2, .int v2)] (by rw [hn]; decide) rfl ?_
      refine so_iload_n (pc := 42) hX dX10_jointOf_42 2 rfl ?_
      refine so_iconst (v := (1 : Int32)) (pc := 43) hX dX10_jointOf_43 (by decide) ?_
      refine so_icmp_eq (pc := 44) hX 52 dX10_jointOf_44 (by decide) (fun hc18 => ?_) (fun hc18 => ?_)
      · have h := ip hc18 h
        refine so_iconst (v := (1 : Int32)) (pc := 52) hX dX10_jointOf_52 (by decide) ?_
        refine so_goto (pc := 53) hX 57 dX10_jointOf_53 (by decide) ?_
        refine so_istore (pc := 57) hX dX10_jointOf_57 [(6, .int (1 : Int32)), (5, .int (0 : Int32)), (4, .int (1 : Int32)), (3, .int ((v1 &&& (15 : Int32)) - (v0 &&& (15 : Int32)))), (0, .int v0), (1, .int v1), (2, .int v2)] (by rw [hn]; decide) rfl ?_
        refine so_iload_n (pc := 59) hX dX10_jointOf_59 6 rfl ?_
        refine so_if_eq (pc := 60) hX 84 dX10_jointOf_60 (by decide) (fun hc19 => ?_) (fun hc19 => ?_)
        · have h := ip hc19 h
          refine so_iload (pc := 84) hX dX10_jointOf_84 0 rfl ?_
          refine so_if_eq (pc := 86) hX 101 dX10_jointOf_86 (by decide) (fun hz => absurd hz (by decide)) (fun _ => ?_)
          refine so_iload (pc := 89) hX dX10_jointOf_89 1 rfl ?_
          refine so_if_ne (pc := 91) hX 101 dX10_jointOf_91 (by decide) (fun hz => absurd hz (by decide)) (fun _ => ?_)
          refine so_iload (pc := 94) hX dX10_jointOf_94 2 rfl ?_
          refine so_if_eq (pc := 96) hX 101 dX10_jointOf_96 (by decide) (fun hz => absurd hz (by decide)) (fun _ => ?_)
          refine so_iconst (v := (2 : Int32)) (pc := 99) hX dX10_jointOf_99 (by decide) ?_
          exact so_iretH (pc := 100) hX hR h rfl dX10_jointOf_100
        · have h := iq hc19 h
          refine so_iload (pc := 63) hX dX10_jointOf_63 0 rfl ?_
          refine so_if_eq (pc := 65) hX 82 dX10_jointOf_65 (by decide) (fun hz => absurd hz (by decide)) (fun _ => ?_)
          refine so_iload (pc := 68) hX dX10_jointOf_68 2 rfl ?_
          refine so_if_ne (pc := 70) hX 82 dX10_jointOf_70 (by decide) (fun _ => ?_) (fun hz => absurd hz (by decide))
          refine so_iconst (v := (0 : Int32)) (pc := 82) hX dX10_jointOf_82 (by decide) ?_
          exact so_iretH (pc := 83) hX hR h rfl dX10_jointOf_83
      · have h := iq hc18 h
        refine so_iload_n (pc := 47) hX dX10_jointOf_47 2 rfl ?_
        refine so_iconst (v := (-1 : Int32)) (pc := 48) hX dX10_jointOf_48 (by decide) ?_
        refine so_icmp_ne (pc := 49) hX 56 dX10_jointOf_49 (by decide) (fun hc20 => ?_) (fun hc20 => ?_)
        · have h := iq hc20 h
          refine so_iconst (v := (0 : Int32)) (pc := 56) hX dX10_jointOf_56 (by decide) ?_
          refine so_istore (pc := 57) hX dX10_jointOf_57 [(6, .int (0 : Int32)), (5, .int (0 : Int32)), (4, .int (1 : Int32)), (3, .int ((v1 &&& (15 : Int32)) - (v0 &&& (15 : Int32)))), (0, .int v0), (1, .int v1), (2, .int v2)] (by rw [hn]; decide) rfl ?_
          refine so_iload_n (pc := 59) hX dX10_jointOf_59 6 rfl ?_
          refine so_if_eq (pc := 60) hX 84 dX10_jointOf_60 (by decide) (fun hc22 => ?_) (fun hc22 => ?_)
          · have h := ip hc22 h
            refine so_iload (pc := 84) hX dX10_jointOf_84 0 rfl ?_
            refine so_if_eq (pc := 86) hX 101 dX10_jointOf_86 (by decide) (fun _ => ?_) (fun hz => absurd hz (by decide))
            refine so_iload (pc := 101) hX dX10_jointOf_101 1 rfl ?_
            refine so_if_ne (pc := 103) hX 111 dX10_jointOf_103 (by decide) (fun hz => absurd hz (by decide)) (fun _ => ?_)
            refine so_iload (pc := 106) hX dX10_jointOf_106 2 rfl ?_
            refine so_if_eq (pc := 108) hX 113 dX10_jointOf_108 (by decide) (fun hz => absurd hz (by decide)) (fun _ => ?_)
            refine so_iconst (v := (0 : Int32)) (pc := 111) hX dX10_jointOf_111 (by decide) ?_
            exact so_iretH (pc := 112) hX hR h rfl dX10_jointOf_112
          · have h := iq hc22 h
            refine so_iload (pc := 63) hX dX10_jointOf_63 0 rfl ?_
            refine so_if_eq (pc := 65) hX 82 dX10_jointOf_65 (by decide) (fun _ => ?_) (fun hz => absurd hz (by decide))
            refine so_iconst (v := (0 : Int32)) (pc := 82) hX dX10_jointOf_82 (by decide) ?_
            exact so_iretH (pc := 83) hX hR h rfl dX10_jointOf_83
        · have h := ip hc20 h
          refine so_iconst (v := (1 : Int32)) (pc := 52) hX dX10_jointOf_52 (by decide) ?_
          refine so_goto (pc := 53) hX 57 dX10_jointOf_53 (by decide) ?_
          refine so_istore (pc := 57) hX dX10_jointOf_57 [(6, .int (1 : Int32)), (5, .int (0 : Int32)), (4, .int (1 : Int32)), (3, .int ((v1 &&& (15 : Int32)) - (v0 &&& (15 : Int32)))), (0, .int v0), (1, .int v1), (2, .int v2)] (by rw [hn]; decide) rfl ?_
          refine so_iload_n (pc := 59) hX dX10_jointOf_59 6 rfl ?_
          refine so_if_eq (pc := 60) hX 84 dX10_jointOf_60 (by decide) (fun hc21 => ?_) (fun hc21 => ?_)
          · have h := ip hc21 h
            refine so_iload (pc := 84) hX dX10_jointOf_84 0 rfl ?_
            refine so_if_eq (pc := 86) hX 101 dX10_jointOf_86 (by decide) (fun hz => absurd hz (by decide)) (fun _ => ?_)
            refine so_iload (pc := 89) hX dX10_jointOf_89 1 rfl ?_
            refine so_if_ne (pc := 91) hX 101 dX10_jointOf_91 (by decide) (fun hz => absurd hz (by decide)) (fun _ => ?_)
            refine so_iload (pc := 94) hX dX10_jointOf_94 2 rfl ?_
            refine so_if_eq (pc := 96) hX 101 dX10_jointOf_96 (by decide) (fun hz => absurd hz (by decide)) (fun _ => ?_)
            refine so_iconst (v := (2 : Int32)) (pc := 99) hX dX10_jointOf_99 (by decide) ?_
            exact so_iretH (pc := 100) hX hR h rfl dX10_jointOf_100
          · have h := iq hc21 h
            refine so_iload (pc := 63) hX dX10_jointOf_63 0 rfl ?_
            refine so_if_eq (pc := 65) hX 82 dX10_jointOf_65 (by decide) (fun hz => absurd hz (by decide)) (fun _ => ?_)
            refine so_iload (pc := 68) hX dX10_jointOf_68 2 rfl ?_
            refine so_if_ne (pc := 70) hX 82 dX10_jointOf_70 (by decide) (fun _ => ?_) (fun hz => absurd hz (by decide))
            refine so_iconst (v := (0 : Int32)) (pc := 82) hX dX10_jointOf_82 (by decide) ?_
            exact so_iretH (pc := 83) hX hR h rfl dX10_jointOf_83
    · have h := iq hc17 h
      refine so_iconst (v := (1 : Int32)) (pc := 35) hX dX10_jointOf_35 (by decide) ?_
      refine so_goto (pc := 36) hX 40 dX10_jointOf_36 (by decide) ?_
      refine so_istore (pc := 40) hX dX10_jointOf_40 [(5, .int (1 : Int32)), (4, .int (1 : Int32)), (3, .int ((v1 &&& (15 : Int32)) - (v0 &&& (15 : Int32)))), (0, .int v0), (1, .int v1), (2, .int v2)] (by rw [hn]; decide) rfl ?_
      refine so_iload_n (pc := 42) hX dX10_jointOf_42 2 rfl ?_
      refine so_iconst (v := (1 : Int32)) (pc := 43) hX dX10_jointOf_43 (by decide) ?_
      refine so_icmp_eq (pc := 44) hX 52 dX10_jointOf_44 (by decide) (fun hc23 => ?_) (fun hc23 => ?_)
      · have h := ip hc23 h
        refine so_iconst (v := (1 : Int32)) (pc := 52) hX dX10_jointOf_52 (by decide) ?_
        refine so_goto (pc := 53) hX 57 dX10_jointOf_53 (by decide) ?_
        refine so_istore (pc := 57) hX dX10_jointOf_57 [(6, .int (1 : Int32)), (5, .int (1 : Int32)), (4, .int (1 : Int32)), (3, .int ((v1 &&& (15 : Int32)) - (v0 &&& (15 : Int32)))), (0, .int v0), (1, .int v1), (2, .int v2)] (by rw [hn]; decide) rfl ?_
        refine so_iload_n (pc := 59) hX dX10_jointOf_59 6 rfl ?_
        refine so_if_eq (pc := 60) hX 84 dX10_jointOf_60 (by decide) (fun hc24 => ?_) (fun hc24 => ?_)
        · have h := ip hc24 h
          refine so_iload (pc := 84) hX dX10_jointOf_84 0 rfl ?_
          refine so_if_eq (pc := 86) hX 101 dX10_jointOf_86 (by decide) (fun hz => absurd hz (by decide)) (fun _ => ?_)
          refine so_iload (pc := 89) hX dX10_jointOf_89 1 rfl ?_
          refine so_if_ne (pc := 91) hX 101 dX10_jointOf_91 (by decide) (fun _ => ?_) (fun hz => absurd hz (by decide))
          refine so_iload (pc := 101) hX dX10_jointOf_101 1 rfl ?_
          refine so_if_ne (pc := 103) hX 111 dX10_jointOf_103 (by decide) (fun _ => ?_) (fun hz => absurd hz (by decide))
          refine so_iconst (v := (0 : Int32)) (pc := 111) hX dX10_jointOf_111 (by decide) ?_
          exact so_iretH (pc := 112) hX hR h rfl dX10_jointOf_112
        · have h := iq hc24 h
          refine so_iload (pc := 63) hX dX10_jointOf_63 0 rfl ?_
          refine so_if_eq (pc := 65) hX 82 dX10_jointOf_65 (by decide) (fun hz => absurd hz (by decide)) (fun _ => ?_)
          refine so_iload (pc := 68) hX dX10_jointOf_68 2 rfl ?_
          refine so_if_ne (pc := 70) hX 82 dX10_jointOf_70 (by decide) (fun _ => ?_) (fun hz => absurd hz (by decide))
          refine so_iconst (v := (0 : Int32)) (pc := 82) hX dX10_jointOf_82 (by decide) ?_
          exact so_iretH (pc := 83) hX hR h rfl dX10_jointOf_83
      · have h := iq hc23 h
        refine so_iload_n (pc := 47) hX dX10_jointOf_47 2 rfl ?_
        refine so_iconst (v := (-1 : Int32)) (pc := 48) hX dX10_jointOf_48 (by decide) ?_
        refine so_icmp_ne (pc := 49) hX 56 dX10_jointOf_49 (by decide) (fun hc25 => ?_) (fun hc25 => ?_)
        · have h := iq hc25 h
          refine so_iconst (v := (0 : Int32)) (pc := 56) hX dX10_jointOf_56 (by decide) ?_
          refine so_istore (pc := 57) hX dX10_jointOf_57 [(6, .int (0 : Int32)), (5, .int (1 : Int32)), (4, .int (1 : Int32)), (3, .int ((v1 &&& (15 : Int32)) - (v0 &&& (15 : Int32)))), (0, .int v0), (1, .int v1), (2, .int v2)] (by rw [hn]; decide) rfl ?_
          refine so_iload_n (pc := 59) hX dX10_jointOf_59 6 rfl ?_
          refine so_if_eq (pc := 60) hX 84 dX10_jointOf_60 (by decide) (fun hc27 => ?_) (fun hc27 => ?_)
          · have h := ip hc27 h
            refine so_iload (pc := 84) hX dX10_jointOf_84 0 rfl ?_
            refine so_if_eq (pc := 86) hX 101 dX10_jointOf_86 (by decide) (fun _ => ?_) (fun hz => absurd hz (by decide))
            refine so_iload (pc := 101) hX dX10_jointOf_101 1 rfl ?_
            refine so_if_ne (pc := 103) hX 111 dX10_jointOf_103 (by decide) (fun _ => ?_) (fun hz => absurd hz (by decide))
            refine so_iconst (v := (0 : Int32)) (pc := 111) hX dX10_jointOf_111 (by decide) ?_
            exact so_iretH (pc := 112) hX hR h rfl dX10_jointOf_112
          · have h := iq hc27 h
            refine so_iload (pc := 63) hX dX10_jointOf_63 0 rfl ?_
            refine so_if_eq (pc := 65) hX 82 dX10_jointOf_65 (by decide) (fun _ => ?_) (fun hz => absurd hz (by decide))
            refine so_iconst (v := (0 : Int32)) (pc := 82) hX dX10_jointOf_82 (by decide) ?_
            exact so_iretH (pc := 83) hX hR h rfl dX10_jointOf_83
        · have h := ip hc25 h
          refine so_iconst (v := (1 : Int32)) (pc := 52) hX dX10_jointOf_52 (by decide) ?_
          refine so_goto (pc := 53) hX 57 dX10_jointOf_53 (by decide) ?_
          refine so_istore (pc := 57) hX dX10_jointOf_57 [(6, .int (1 : Int32)), (5, .int (1 : Int32)), (4, .int (1 : Int32)), (3, .int ((v1 &&& (15 : Int32)) - (v0 &&& (15 : Int32)))), (0, .int v0), (1, .int v1), (2, .int v2)] (by rw [hn]; decide) rfl ?_
          refine so_iload_n (pc := 59) hX dX10_jointOf_59 6 rfl ?_
          refine so_if_eq (pc := 60) hX 84 dX10_jointOf_60 (by decide) (fun hc26 => ?_) (fun hc26 => ?_)
          · have h := ip hc26 h
            refine so_iload (pc := 84) hX dX10_jointOf_84 0 rfl ?_
            refine so_if_eq (pc := 86) hX 101 dX10_jointOf_86 (by decide) (fun hz => absurd hz (by decide)) (fun _ => ?_)
            refine so_iload (pc := 89) hX dX10_jointOf_89 1 rfl ?_
            refine so_if_ne (pc := 91) hX 101 dX10_jointOf_91 (by decide) (fun _ => ?_) (fun hz => absurd hz (by decide))
            refine so_iload (pc := 101) hX dX10_jointOf_101 1 rfl ?_
            refine so_if_ne (pc := 103) hX 111 dX10_jointOf_103 (by decide) (fun _ => ?_) (fun hz => absurd hz (by decide))
            refine so_iconst (v := (0 : Int32)) (pc := 111) hX dX10_jointOf_111 (by decide) ?_
            exact so_iretH (pc := 112) hX hR h rfl dX10_jointOf_112
          · have h := iq hc26 h
            refine so_iload (pc := 63) hX dX10_jointOf_63 0 rfl ?_
            refine so_if_eq (pc := 65) hX 82 dX10_jointOf_65 (by decide) (fun hz => absurd hz (by decide)) (fun _ => ?_)
            refine so_iload (pc := 68) hX dX10_jointOf_68 2 rfl ?_
            refine so_if_ne (pc := 70) hX 82 dX10_jointOf_70 (by decide) (fun _ => ?_) (fun hz => absurd hz (by decide))
            refine so_iconst (v := (0 : Int32)) (pc := 82) hX dX10_jointOf_82 (by decide) ?_
            exact so_iretH (pc := 83) hX hR h rfl dX10_jointOf_83
set_option maxHeartbeats 4000000 in
set_option maxRecDepth 100000 in
theorem c_X10_joint {l : Launch} {V : Ev} (hL : V.2.2.2 = lyM) {v1 : Int32} {v2 : Int32} {v3 : Int32} {v4 : Int32}  {μ : Mem} {rZ : Int32} {μZ : Mem} (h : f_X10_joint v1 v2 v3 v4 μ = some (rZ, μZ)) : CT l V yX10_joint cX10_joint 5 (some .int) 1 [.ref (evA V 0), .int v1, .int v2, .int v3, .int v4] μ μZ (some (.int rZ)) := by
  refine so_met [(0, .ref (evA V 0)), (1, .int v1), (2, .int v2), (3, .int v3), (4, .int v4)] (by decide) (Nat.le_of_ble_eq_true rfl) (evMn hL) rfl ?_
  intro X hl hV hn hX hR
  subst hl hV
  unfold f_X10_joint at h
  refine so_aload_n (pc := 0) hX dX10_joint_0 0 rfl ?_
  refine so_iload_n (pc := 1) hX dX10_joint_1 1 rfl ?_
  obtain ⟨r2, μ1, hr, h⟩ := obd h
  refine so_callV (As := [.int v1]) (rest := []) (pc := 2) hX dX10_joint_2 (c_X10_isDoor hL hr) mw_X10_isDoor mv_X10_isDoor ml_X10_276 (ekM hL rfl) (by decide) rfl rfl rfl rfl (by omega) (by decide) (Nat.le_of_ble_eq_true rfl) ?_
  refine so_if_eq (pc := 5) hX 58 dX10_joint_5 (by decide) (fun hc3 => ?_) (fun hc3 => ?_)
  · have h := ip hc3 h
    refine so_iconst (v := (-1 : Int32)) (pc := 58) hX dX10_joint_58 (by decide) ?_
    exact so_iretH (pc := 59) hX hR h rfl dX10_joint_59
  · have h := iq hc3 h
    refine so_iload_n (pc := 8) hX dX10_joint_8 2 rfl ?_
    refine so_if_lt (pc := 9) hX 58 dX10_joint_9 (by decide) (fun hc4 => ?_) (fun hc4 => ?_)
    · have h := ip hc4 h
      refine so_iconst (v := (-1 : Int32)) (pc := 58) hX dX10_joint_58 (by decide) ?_
      exact so_iretH (pc := 59) hX hR h rfl dX10_joint_59
    · have h := iq hc4 h
      refine so_iload_n (pc := 12) hX dX10_joint_12 3 rfl ?_
      refine so_if_lt (pc := 13) hX 58 dX10_joint_13 (by decide) (fun hc5 => ?_) (fun hc5 => ?_)
      · have h := ip hc5 h
        refine so_iconst (v := (-1 : Int32)) (pc := 58) hX dX10_joint_58 (by decide) ?_
        exact so_iretH (pc := 59) hX hR h rfl dX10_joint_59
      · have h := iq hc5 h
        refine so_iload_n (pc := 16) hX dX10_joint_16 2 rfl ?_
        refine so_aload_n (pc := 17) hX dX10_joint_17 0 rfl ?_
        refine so_gR (pc := 18) hX 38 dX10_joint_18 fl_X10_125 (ekM hL rfl) (erM hL rfl) ?_
        refine so_iload_n (pc := 21) hX dX10_joint_21 1 rfl ?_
        obtain ⟨e6, hr, h⟩ := ob h
        refine so_iald (pc := 22) hX dX10_joint_22 (ekM hL rfl) (elM hL rfl) hr ?_
        refine so_iload (pc := 23) hX dX10_joint_23 4 rfl ?_
        refine so_if_eq (pc := 25) hX 32 dX10_joint_25 (by decide) (fun hc7 => ?_) (fun hc7 => ?_)
        · have h := ip hc7 h
          refine so_iconst (v := (1 : Int32)) (pc := 32) hX dX10_joint_32 (by decide) ?_
          refine so_isub (pc := 33) hX dX10_joint_33 ?_
          refine so_icmp_ge (pc := 34) hX 58 dX10_joint_34 (by decide) (fun hc8 => ?_) (fun hc8 => ?_)
          · have h := ip hc8 h
            refine so_iconst (v := (-1 : Int32)) (pc := 58) hX dX10_joint_58 (by decide) ?_
            exact so_iretH (pc := 59) hX hR h rfl dX10_joint_59
          · have h := iq hc8 h
            refine so_iload_n (pc := 37) hX dX10_joint_37 3 rfl ?_
            refine so_aload_n (pc := 38) hX dX10_joint_38 0 rfl ?_
            refine so_gR (pc := 39) hX 39 dX10_joint_39 fl_X10_128 (ekM hL rfl) (erM hL rfl) ?_
            refine so_iload_n (pc := 42) hX dX10_joint_42 1 rfl ?_
            obtain ⟨e9, hr, h⟩ := ob h
            refine so_iald (pc := 43) hX dX10_joint_43 (ekM hL rfl) (elM hL rfl) hr ?_
            refine so_iload (pc := 44) hX dX10_joint_44 4 rfl ?_
            refine so_if_eq (pc := 46) hX 53 dX10_joint_46 (by decide) (fun _ => ?_) (fun hz => absurd hc7 hz)
            refine so_iconst (v := (0 : Int32)) (pc := 53) hX dX10_joint_53 (by decide) ?_
            refine so_isub (pc := 54) hX dX10_joint_54 ?_
            refine so_icmp_lt (pc := 55) hX 60 dX10_joint_55 (by decide) (fun hc10 => ?_) (fun hc10 => ?_)
            · have h := ip hc10 h
              refine so_aload_n (pc := 60) hX dX10_joint_60 0 rfl ?_
              refine so_iload_n (pc := 61) hX dX10_joint_61 1 rfl ?_
              refine so_iload_n (pc := 62) hX dX10_joint_62 2 rfl ?_
              refine so_iload_n (pc := 63) hX dX10_joint_63 3 rfl ?_
              obtain ⟨r12, μ11, hr, h⟩ := obd h
              refine so_callV (As := [.int v1, .int v2, .int v3]) (rest := []) (pc := 64) hX dX10_joint_64 (c_X10_pieceOf hL hr) mw_X10_pieceOf mv_X10_pieceOf ml_X10_279 (ekM hL rfl) (by decide) rfl rfl rfl rfl (by omega) (by decide) (Nat.le_of_ble_eq_true rfl) ?_
              refine so_iload (pc := 67) hX dX10_joint_67 4 rfl ?_
              refine so_if_eq (pc := 69) hX 84 dX10_joint_69 (by decide) (fun _ => ?_) (fun hz => absurd hc7 hz)
              refine so_aload_n (pc := 84) hX dX10_joint_84 0 rfl ?_
              refine so_iload_n (pc := 85) hX dX10_joint_85 1 rfl ?_
              refine so_iload_n (pc := 86) hX dX10_joint_86 2 rfl ?_
              refine so_iconst (v := (1 : Int32)) (pc := 87) hX dX10_joint_87 (by decide) ?_
              refine so_iadd (pc := 88) hX dX10_joint_88 ?_
              refine so_iload_n (pc := 89) hX dX10_joint_89 3 rfl ?_
              obtain ⟨r14, μ13, hr, h⟩ := obd h
              refine so_callV (As := [.int v1, .int (v2 + (1 : Int32)), .int v3]) (rest := [.int r12]) (pc := 90) hX dX10_joint_90 (c_X10_pieceOf hL hr) mw_X10_pieceOf mv_X10_pieceOf ml_X10_279 (ekM hL rfl) (by decide) rfl rfl rfl rfl (by omega) (by decide) (Nat.le_of_ble_eq_true rfl) ?_
              refine so_iload (pc := 93) hX dX10_joint_93 4 rfl ?_
              obtain ⟨r16, μ15, hr, h⟩ := obd h
              refine so_callS (As := [.int r12, .int r14, .int v4]) (rest := []) (pc := 95) hX dX10_joint_95 (c_X10_jointOf hL hr) mw_X10_jointOf ms_X10_jointOf ml_X10_283 rfl rfl (by omega) (by decide) (Nat.le_of_ble_eq_true rfl) ?_
              exact so_iretH (pc := 98) hX hR h rfl dX10_joint_98
            · have h := iq hc10 h
              refine so_iconst (v := (-1 : Int32)) (pc := 58) hX dX10_joint_58 (by decide) ?_
              exact so_iretH (pc := 59) hX hR h rfl dX10_joint_59
        · have h := iq hc7 h
          refine so_iconst (v := (0 : Int32)) (pc := 28) hX dX10_joint_28 (by decide) ?_
          refine so_goto (pc := 29) hX 33 dX10_joint_29 (by decide) ?_
          refine so_isub (pc := 33) hX dX10_joint_33 ?_
          refine so_icmp_ge (pc := 34) hX 58 dX10_joint_34 (by decide) (fun hc17 => ?_) (fun hc17 => ?_)
          · have h := ip hc17 h
            refine so_iconst (v := (-1 : Int32)) (pc := 58) hX dX10_joint_58 (by decide) ?_
            exact so_iretH (pc := 59) hX hR h rfl dX10_joint_59
          · have h := iq hc17 h
            refine so_iload_n (pc := 37) hX dX10_joint_37 3 rfl ?_
            refine so_aload_n (pc := 38) hX dX10_joint_38 0 rfl ?_
            refine so_gR (pc := 39) hX 39 dX10_joint_39 fl_X10_128 (ekM hL rfl) (erM hL rfl) ?_
            refine so_iload_n (pc := 42) hX dX10_joint_42 1 rfl ?_
            obtain ⟨e18, hr, h⟩ := ob h
            refine so_iald (pc := 43) hX dX10_joint_43 (ekM hL rfl) (elM hL rfl) hr ?_
            refine so_iload (pc := 44) hX dX10_joint_44 4 rfl ?_
            refine so_if_eq (pc := 46) hX 53 dX10_joint_46 (by decide) (fun hz => absurd hz hc7) (fun _ => ?_)
            refine so_iconst (v := (1 : Int32)) (pc := 49) hX dX10_joint_49 (by decide) ?_
            refine so_goto (pc := 50) hX 54 dX10_joint_50 (by decide) ?_
            refine so_isub (pc := 54) hX dX10_joint_54 ?_
            refine so_icmp_lt (pc := 55) hX 60 dX10_joint_55 (by decide) (fun hc19 => ?_) (fun hc19 => ?_)
            · have h := ip hc19 h
              refine so_aload_n (pc := 60) hX dX10_joint_60 0 rfl ?_
              refine so_iload_n (pc := 61) hX dX10_joint_61 1 rfl ?_
              refine so_iload_n (pc := 62) hX dX10_joint_62 2 rfl ?_
              refine so_iload_n (pc := 63) hX dX10_joint_63 3 rfl ?_
              obtain ⟨r21, μ20, hr, h⟩ := obd h
              refine so_callV (As := [.int v1, .int v2, .int v3]) (rest := []) (pc := 64) hX dX10_joint_64 (c_X10_pieceOf hL hr) mw_X10_pieceOf mv_X10_pieceOf ml_X10_279 (ekM hL rfl) (by decide) rfl rfl rfl rfl (by omega) (by decide) (Nat.le_of_ble_eq_true rfl) ?_
              refine so_iload (pc := 67) hX dX10_joint_67 4 rfl ?_
              refine so_if_eq (pc := 69) hX 84 dX10_joint_69 (by decide) (fun hz => absurd hz hc7) (fun _ => ?_)
              refine so_aload_n (pc := 72) hX dX10_joint_72 0 rfl ?_
              refine so_iload_n (pc := 73) hX dX10_joint_73 1 rfl ?_
              refine so_iload_n (pc := 74) hX dX10_joint_74 2 rfl ?_
              refine so_iload_n (pc := 75) hX dX10_joint_75 3 rfl ?_
              refine so_iconst (v := (1 : Int32)) (pc := 76) hX dX10_joint_76 (by decide) ?_
              refine so_iadd (pc := 77) hX dX10_joint_77 ?_
              obtain ⟨r23, μ22, hr, h⟩ := obd h
              refine so_callV (As := [.int v1, .int v2, .int (v3 + (1 : Int32))]) (rest := [.int r21]) (pc := 78) hX dX10_joint_78 (c_X10_pieceOf hL hr) mw_X10_pieceOf mv_X10_pieceOf ml_X10_279 (ekM hL rfl) (by decide) rfl rfl rfl rfl (by omega) (by decide) (Nat.le_of_ble_eq_true rfl) ?_
              refine so_goto (pc := 81) hX 93 dX10_joint_81 (by decide) ?_
              refine so_iload (pc := 93) hX dX10_joint_93 4 rfl ?_
              obtain ⟨r25, μ24, hr, h⟩ := obd h
              refine so_callS (As := [.int r21, .int r23, .int v4]) (rest := []) (pc := 95) hX dX10_joint_95 (c_X10_jointOf hL hr) mw_X10_jointOf ms_X10_jointOf ml_X10_283 rfl rfl (by omega) (by decide) (Nat.le_of_ble_eq_true rfl) ?_
              exact so_iretH (pc := 98) hX hR h rfl dX10_joint_98
            · have h := iq hc19 h
              refine so_iconst (v := (-1 : Int32)) (pc := 58) hX dX10_joint_58 (by decide) ?_
              exact so_iretH (pc := 59) hX hR h rfl dX10_joint_59
set_option maxHeartbeats 4000000 in
set_option maxRecDepth 100000 in
theorem g_X10_joints_L19 {X : Cx} (hX : Fx X cX10_joints RX10 2) (hL : (xV X).2.2.2 = lyM) (hn : xn X = 6) {rZ : Int32} {μZ : Mem} (hR : Rt X (some .int) μZ (some (.int rZ))) {v1 : Int32} {v2 : Int32} {v4 : Int32}  {K : Int32 → Mem → Option (Int32 × Mem)} (hK : ∀ (v3 : Int32) (μ : Mem), K v3 μ = some (rZ, μZ) → Gd X 70 [(0, .ref (evA (xV X) 0)), (1, .int v1), (2, .int v2), (3, .int v3), (4, .int v4)] [] μ) : ∀ (n : Nat) (v3 : Int32) (v5 : Int32) (μ : Mem), f_X10_joints_L19 v1 v2 v4 K n v3 v5 μ = some (rZ, μZ) → Gd X 19 [(0, .ref (evA (xV X) 0)), (1, .int v1), (2, .int v2), (3, .int v3), (4, .int v4), (5, .int v5)] [] μ := by
  intro n
  induction n with
  | zero => intro _ _ _ h; rw [f_X10_joints_L19] at h; cases h
  | succ n ih =>
    intro v3 v5 μ h
    rw [f_X10_joints_L19] at h
    refine so_iload (pc := 19) hX dX10_joints_19 5 rfl ?_
    refine so_aload_n (pc := 21) hX dX10_joints_21 0 rfl ?_
    refine so_gR (pc := 22) hX 38 dX10_joints_22 fl_X10_125 (ekM hL rfl) (erM hL rfl) ?_
    refine so_iload_n (pc := 25) hX dX10_joints_25 1 rfl ?_
    obtain ⟨e3, hr, h⟩ := ob h
    refine so_iald (pc := 26) hX dX10_joints_26 (ekM hL rfl) (elM hL rfl) hr ?_
    refine so_icmp_ge (pc := 27) hX 70 dX10_joints_27 (by decide) (fun hc4 => ?_) (fun hc4 => ?_)
    · have h := ip hc4 h
      refine so_sub (pc := 70) (lv' := [(0, .ref (evA (xV X) 0)), (1, .int v1), (2, .int v2), (3, .int v3), (4, .int v4)]) [0, 1, 2, 3, 4] rfl ?_
      exact hK _ _ h
    · have h := iq hc4 h
      refine so_aload_n (pc := 30) hX dX10_joints_30 0 rfl ?_
      refine so_iload_n (pc := 31) hX dX10_joints_31 1 rfl ?_
      refine so_iload (pc := 32) hX dX10_joints_32 5 rfl ?_
      refine so_iload (pc := 34) hX dX10_joints_34 4 rfl ?_
      refine so_iconst (v := (0 : Int32)) (pc := 36) hX dX10_joints_36 (by decide) ?_
      obtain ⟨r6, μ5, hr, h⟩ := obd h
      refine so_callV (As := [.int v1, .int v5, .int v4, .int (0 : Int32)]) (rest := []) (pc := 37) hX dX10_joints_37 (c_X10_joint hL hr) mw_X10_joint mv_X10_joint ml_X10_287 (ekM hL rfl) (by decide) rfl rfl rfl rfl (by omega) (by decide) (Nat.le_of_ble_eq_true rfl) ?_
      refine so_iload_n (pc := 40) hX dX10_joints_40 2 rfl ?_
      refine so_icmp_ne (pc := 41) hX 47 dX10_joints_41 (by decide) (fun hc7 => ?_) (fun hc7 => ?_)
      · have h := iq hc7 h
        refine so_aload_n (pc := 47) hX dX10_joints_47 0 rfl ?_
        refine so_iload_n (pc := 48) hX dX10_joints_48 1 rfl ?_
        refine so_iload (pc := 49) hX dX10_joints_49 5 rfl ?_
        refine so_iload (pc := 51) hX dX10_joints_51 4 rfl ?_
        refine so_iconst (v := (1 : Int32)) (pc := 53) hX dX10_joints_53 (by decide) ?_
        obtain ⟨r12, μ11, hr, h⟩ := obd h
        refine so_callV (As := [.int v1, .int v5, .int v4, .int (1 : Int32)]) (rest := []) (pc := 54) hX dX10_joints_54 (c_X10_joint hL hr) mw_X10_joint mv_X10_joint ml_X10_287 (ekM hL rfl) (by decide) rfl rfl rfl rfl (by omega) (by decide) (Nat.le_of_ble_eq_true rfl) ?_
        refine so_iload_n (pc := 57) hX dX10_joints_57 2 rfl ?_
        refine so_icmp_ne (pc := 58) hX 64 dX10_joints_58 (by decide) (fun hc13 => ?_) (fun hc13 => ?_)
        · have h := iq hc13 h
          refine so_iinc (pc := 64) hX dX10_joints_64 5 (1 : Int32) [(5, .int (v5 + (1 : Int32))), (0, .ref (evA (xV X) 0)), (1, .int v1), (2, .int v2), (3, .int v3), (4, .int v4)] rfl (by decide) (by rw [hn]; decide) rfl ?_
          refine so_goto (pc := 67) hX 19 dX10_joints_67 (by decide) ?_
          refine so_sub (pc := 19) (lv' := [(0, .ref (evA (xV X) 0)), (1, .int v1), (2, .int v2), (3, .int v3), (4, .int v4), (5, .int (v5 + (1 : Int32)))]) [1, 2, 3, 4, 5, 0] rfl ?_
          exact ih _ _ _ h
        · have h := ip hc13 h
          refine so_iinc (pc := 61) hX dX10_joints_61 3 (1 : Int32) [(3, .int (v3 + (1 : Int32))), (0, .ref (evA (xV X) 0)), (1, .int v1), (2, .int v2), (4, .int v4), (5, .int v5)] rfl (by decide) (by rw [hn]; decide) rfl ?_
          refine so_iinc (pc := 64) hX dX10_joints_64 5 (1 : Int32) [(5, .int (v5 + (1 : Int32))), (3, .int (v3 + (1 : Int32))), (0, .ref (evA (xV X) 0)), (1, .int v1), (2, .int v2), (4, .int v4)] rfl (by decide) (by rw [hn]; decide) rfl ?_
          refine so_goto (pc := 67) hX 19 dX10_joints_67 (by decide) ?_
          refine so_sub (pc := 19) (lv' := [(0, .ref (evA (xV X) 0)), (1, .int v1), (2, .int v2), (3, .int (v3 + (1 : Int32))), (4, .int v4), (5, .int (v5 + (1 : Int32)))]) [2, 3, 4, 1, 5, 0] rfl ?_
          exact ih _ _ _ h
      · have h := ip hc7 h
        refine so_iinc (pc := 44) hX dX10_joints_44 3 (1 : Int32) [(3, .int (v3 + (1 : Int32))), (0, .ref (evA (xV X) 0)), (1, .int v1), (2, .int v2), (4, .int v4), (5, .int v5)] rfl (by decide) (by rw [hn]; decide) rfl ?_
        refine so_aload_n (pc := 47) hX dX10_joints_47 1 rfl ?_
        refine so_iload_n (pc := 48) hX dX10_joints_48 2 rfl ?_
        refine so_iload (pc := 49) hX dX10_joints_49 5 rfl ?_
        refine so_iload (pc := 51) hX dX10_joints_51 4 rfl ?_
        refine so_iconst (v := (1 : Int32)) (pc := 53) hX dX10_joints_53 (by decide) ?_
        obtain ⟨r9, μ8, hr, h⟩ := obd h
        refine so_callV (As := [.int v1, .int v5, .int v4, .int (1 : Int32)]) (rest := []) (pc := 54) hX dX10_joints_54 (c_X10_joint hL hr) mw_X10_joint mv_X10_joint ml_X10_287 (ekM hL rfl) (by decide) rfl rfl rfl rfl (by omega) (by decide) (Nat.le_of_ble_eq_true rfl) ?_
        refine so_iload_n (pc := 57) hX dX10_joints_57 3 rfl ?_
        refine so_icmp_ne (pc := 58) hX 64 dX10_joints_58 (by decide) (fun hc10 => ?_) (fun hc10 => ?_)
        · have h := iq hc10 h
          refine so_iinc (pc := 64) hX dX10_joints_64 5 (1 : Int32) [(5, .int (v5 + (1 : Int32))), (3, .int (v3 + (1 : Int32))), (0, .ref (evA (xV X) 0)), (1, .int v1), (2, .int v2), (4, .int v4)] rfl (by decide) (by rw [hn]; decide) rfl ?_
          refine so_goto (pc := 67) hX 19 dX10_joints_67 (by decide) ?_
          refine so_sub (pc := 19) (lv' := [(0, .ref (evA (xV X) 0)), (1, .int v1), (2, .int v2), (3, .int (v3 + (1 : Int32))), (4, .int v4), (5, .int (v5 + (1 : Int32)))]) [2, 3, 4, 1, 5, 0] rfl ?_
          exact ih _ _ _ h
        · have h := ip hc10 h
          refine so_iinc (pc := 61) hX dX10_joints_61 0 (1 : Int32) [(3, .int ((v3 + (1 : Int32)) + (1 : Int32))), (0, .ref (evA (xV X) 0)), (1, .int v1), (2, .int v2), (4, .int v4), (5, .int v5)] rfl (by decide) (by rw [hn]; decide) rfl ?_
          refine so_iinc (pc := 64) hX dX10_joints_64 5 (1 : Int32) [(5, .int (v5 + (1 : Int32))), (3, .int ((v3 + (1 : Int32)) + (1 : Int32))), (0, .ref (evA (xV X) 0)), (1, .int v1), (2, .int v2), (4, .int v4)] rfl (by decide) (by rw [hn]; decide) rfl ?_
          refine so_goto (pc := 67) hX 19 dX10_joints_67 (by decide) ?_
          refine so_sub (pc := 19) (lv' := [(0, .ref (evA (xV X) 0)), (1, .int v1), (2, .int v2), (3, .int ((v3 + (1 : Int32)) + (1 : Int32))), (4, .int v4), (5, .int (v5 + (1 : Int32)))]) [2, 3, 4, 1, 5, 0] rfl ?_
          exact ih _ _ _ h
set_option maxHeartbeats 4000000 in
set_option maxRecDepth 100000 in
theorem g_X10_joints_L5 {X : Cx} (hX : Fx X cX10_joints RX10 2) (hL : (xV X).2.2.2 = lyM) (hn : xn X = 6) {rZ : Int32} {μZ : Mem} (hR : Rt X (some .int) μZ (some (.int rZ))) {v1 : Int32} {v2 : Int32}  {K : Int32 → Mem → Option (Int32 × Mem)} (hK : ∀ (v3 : Int32) (μ : Mem), K v3 μ = some (rZ, μZ) → Gd X 76 [(3, .int v3)] [] μ) : ∀ (n : Nat) (v3 : Int32) (v4 : Int32) (μ : Mem), f_X10_joints_L5 v1 v2 K n v3 v4 μ = some (rZ, μZ) → Gd X 5 [(0, .ref (evA (xV X) 0)), (1, .int v1), (2, .int v2), (3, .int v3), (4, .int v4)] [] μ := by
  intro n
  induction n with
  | zero => intro _ _ _ h; rw [f_X10_joints_L5] at h; cases h
  | succ n ih =>
    intro v3 v4 μ h
    rw [f_X10_joints_L5] at h
    refine so_iload (pc := 5) hX dX10_joints_5 4 rfl ?_
    refine so_aload_n (pc := 7) hX dX10_joints_7 0 rfl ?_
    refine so_gR (pc := 8) hX 39 dX10_joints_8 fl_X10_128 (ekM hL rfl) (erM hL rfl) ?_
    refine so_iload_n (pc := 11) hX dX10_joints_11 1 rfl ?_
    obtain ⟨e1, hr, h⟩ := ob h
    refine so_iald (pc := 12) hX dX10_joints_12 (ekM hL rfl) (elM hL rfl) hr ?_
    refine so_icmp_ge (pc := 13) hX 76 dX10_joints_13 (by decide) (fun hc2 => ?_) (fun hc2 => ?_)
    · have h := ip hc2 h
      refine so_sub (pc := 76) (lv' := [(3, .int v3)]) [3] rfl ?_
      exact hK _ _ h
    · have h := iq hc2 h
      refine so_iconst (v := (0 : Int32)) (pc := 16) hX dX10_joints_16 (by decide) ?_
      refine so_istore (pc := 17) hX dX10_joints_17 [(5, .int (0 : Int32)), (0, .ref (evA (xV X) 0)), (1, .int v1), (2, .int v2), (3, .int v3), (4, .int v4)] (by rw [hn]; decide) rfl ?_
      refine so_sub (pc := 19) (lv' := [(0, .ref (evA (xV X) 0)), (1, .int v1), (2, .int v2), (3, .int v3), (4, .int v4), (5, .int (0 : Int32))]) [1, 2, 3, 4, 5, 0] rfl ?_
      refine g_X10_joints_L19 hX hL hn hR (fun w14 μ15 h => ?_) FU _ _ _ h
      refine so_iinc (pc := 70) hX dX10_joints_70 4 (1 : Int32) [(4, .int (v4 + (1 : Int32))), (0, .ref (evA (xV X) 0)), (1, .int v1), (2, .int v2), (3, .int w14)] rfl (by decide) (by rw [hn]; decide) rfl ?_
      refine so_goto (pc := 73) hX 5 dX10_joints_73 (by decide) ?_
      refine so_sub (pc := 5) (lv' := [(0, .ref (evA (xV X) 0)), (1, .int v1), (2, .int v2), (3, .int w14), (4, .int (v4 + (1 : Int32)))]) [1, 2, 3, 4, 0] rfl ?_
      exact ih _ _ _ h
set_option maxHeartbeats 4000000 in
set_option maxRecDepth 100000 in
theorem c_X10_joints {l : Launch} {V : Ev} (hL : V.2.2.2 = lyM) {v1 : Int32} {v2 : Int32}  {μ : Mem} {rZ : Int32} {μZ : Mem} (h : f_X10_joints v1 v2 μ = some (rZ, μZ)) : CT l V yX10_joints cX10_joints 6 (some .int) 2 [.ref (evA V 0), .int v1, .int v2] μ μZ (some (.int rZ)) := by
  refine so_met [(0, .ref (evA V 0)), (1, .int v1), (2, .int v2)] (by decide) (Nat.le_of_ble_eq_true rfl) (evMn hL) rfl ?_
  intro X hl hV hn hX hR
  subst hl hV
  unfold f_X10_joints at h
  refine so_iconst (v := (0 : Int32)) (pc := 0) hX dX10_joints_0 (by decide) ?_
  refine so_istore_n (pc := 1) hX dX10_joints_1 [(3, .int (0 : Int32)), (0, .ref (evA (xV X) 0)), (1, .int v1), (2, .int v2)] (by rw [hn]; decide) rfl ?_
  refine so_iconst (v := (0 : Int32)) (pc := 2) hX dX10_joints_2 (by decide) ?_
  refine so_istore (pc := 3) hX dX10_joints_3 [(4, .int (0 : Int32)), (3, .int (0 : Int32)), (0, .ref (evA (xV X) 0)), (1, .int v1), (2, .int v2)] (by rw [hn]; decide) rfl ?_
  refine so_sub (pc := 5) (lv' := [(0, .ref (evA (xV X) 0)), (1, .int v1), (2, .int v2), (3, .int (0 : Int32)), (4, .int (0 : Int32))]) [2, 3, 4, 1, 0] rfl ?_
  refine g_X10_joints_L5 hX hL hn hR (fun w16 μ17 h => ?_) FU _ _ _ h
  refine so_iload_n (pc := 76) hX dX10_joints_76 0 rfl ?_
  exact so_iretH (pc := 77) hX hR h rfl dX10_joints_77
