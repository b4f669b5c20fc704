theorem dX10_parts_76 : decode cX10_parts 76 = .ok (.putfield 236, 3) := by decide +kernel
theorem dX10_parts_79 : decode cX10_parts 79 = .ok (.aload_n 0, 1) := by decide +kernel
theorem dX10_parts_80 : decode cX10_parts 80 = .ok (.iconst 1, 1) := by decide +kernel
theorem dX10_parts_81 : decode cX10_parts 81 = .ok (.putfield 233, 3) := by decide +kernel
theorem dX10_parts_84 : decode cX10_parts 84 = .ok (.aload_n 0, 1) := by decide +kernel
theorem dX10_parts_85 : decode cX10_parts 85 = .ok (.getfield 86, 3) := by decide +kernel
theorem dX10_parts_88 : decode cX10_parts 88 = .ok (.iconst 0, 1) := by decide +kernel
theorem dX10_parts_89 : decode cX10_parts 89 = .ok (.iload_n 1, 1) := by decide +kernel
theorem dX10_parts_90 : decode cX10_parts 90 = .ok (.bipush 48, 2) := by decide +kernel
theorem dX10_parts_92 : decode cX10_parts 92 = .ok (.isub, 1) := by decide +kernel
theorem dX10_parts_93 : decode cX10_parts 93 = .ok (.iastore, 1) := by decide +kernel
theorem dX10_parts_94 : decode cX10_parts 94 = .ok (.iconst 1, 1) := by decide +kernel
theorem dX10_parts_95 : decode cX10_parts 95 = .ok (.ireturn, 1) := by decide +kernel
theorem dX10_parts_96 : decode cX10_parts 96 = .ok (.iload_n 1, 1) := by decide +kernel
theorem dX10_parts_97 : decode cX10_parts 97 = .ok (.bipush 40, 2) := by decide +kernel
theorem dX10_parts_99 : decode cX10_parts 99 = .ok (.if_icmp .eq 26, 3) := by decide +kernel
theorem dX10_parts_102 : decode cX10_parts 102 = .ok (.iload_n 1, 1) := by decide +kernel
theorem dX10_parts_103 : decode cX10_parts 103 = .ok (.bipush 33, 2) := by decide +kernel
theorem dX10_parts_105 : decode cX10_parts 105 = .ok (.if_icmp .eq 20, 3) := by decide +kernel
theorem dX10_parts_108 : decode cX10_parts 108 = .ok (.iload_n 1, 1) := by decide +kernel
theorem dX10_parts_109 : decode cX10_parts 109 = .ok (.bipush 126, 2) := by decide +kernel
theorem dX10_parts_111 : decode cX10_parts 111 = .ok (.if_icmp .eq 14, 3) := by decide +kernel
theorem dX10_parts_114 : decode cX10_parts 114 = .ok (.aload_n 0, 1) := by decide +kernel
theorem dX10_parts_115 : decode cX10_parts 115 = .ok (.iconst 1, 1) := by decide +kernel
theorem dX10_parts_116 : decode cX10_parts 116 = .ok (.aload_n 0, 1) := by decide +kernel
theorem dX10_parts_117 : decode cX10_parts 117 = .ok (.getfield 218, 3) := by decide +kernel
theorem dX10_parts_120 : decode cX10_parts 120 = .ok (.invokevirtual 230, 3) := by decide +kernel
theorem dX10_parts_123 : decode cX10_parts 123 = .ok (.iconst 0, 1) := by decide +kernel
theorem dX10_parts_124 : decode cX10_parts 124 = .ok (.ireturn, 1) := by decide +kernel
theorem dX10_parts_125 : decode cX10_parts 125 = .ok (.aload_n 0, 1) := by decide +kernel
theorem dX10_parts_126 : decode cX10_parts 126 = .ok (.iload_n 1, 1) := by decide +kernel
theorem dX10_parts_127 : decode cX10_parts 127 = .ok (.iconst 0, 1) := by decide +kernel
theorem dX10_parts_128 : decode cX10_parts 128 = .ok (.iload_n 2, 1) := by decide +kernel
theorem dX10_parts_129 : decode cX10_parts 129 = .ok (.iload_n 2, 1) := by decide +kernel
theorem dX10_parts_130 : decode cX10_parts 130 = .ok (.invokevirtual 250, 3) := by decide +kernel
theorem dX10_parts_133 : decode cX10_parts 133 = .ok (.aload_n 0, 1) := by decide +kernel
theorem dX10_parts_134 : decode cX10_parts 134 = .ok (.dup, 1) := by decide +kernel
theorem dX10_parts_135 : decode cX10_parts 135 = .ok (.getfield 218, 3) := by decide +kernel
theorem dX10_parts_138 : decode cX10_parts 138 = .ok (.iconst 1, 1) := by decide +kernel
theorem dX10_parts_139 : decode cX10_parts 139 = .ok (.iadd, 1) := by decide +kernel
theorem dX10_parts_140 : decode cX10_parts 140 = .ok (.putfield 218, 3) := by decide +kernel
theorem dX10_parts_143 : decode cX10_parts 143 = .ok (.iload_n 1, 1) := by decide +kernel
theorem dX10_parts_144 : decode cX10_parts 144 = .ok (.bipush 40, 2) := by decide +kernel
theorem dX10_parts_146 : decode cX10_parts 146 = .ok (.if_icmp .ne 24, 3) := by decide +kernel
theorem dX10_parts_149 : decode cX10_parts 149 = .ok (.aload_n 0, 1) := by decide +kernel
theorem dX10_parts_150 : decode cX10_parts 150 = .ok (.getfield 212, 3) := by decide +kernel
theorem dX10_parts_153 : decode cX10_parts 153 = .ok (.ifCond .ne 17, 3) := by decide +kernel
theorem dX10_parts_156 : decode cX10_parts 156 = .ok (.aload_n 0, 1) := by decide +kernel
theorem dX10_parts_157 : decode cX10_parts 157 = .ok (.dup, 1) := by decide +kernel
theorem dX10_parts_158 : decode cX10_parts 158 = .ok (.getfield 224, 3) := by decide +kernel
theorem dX10_parts_161 : decode cX10_parts 161 = .ok (.iconst 1, 1) := by decide +kernel
theorem dX10_parts_162 : decode cX10_parts 162 = .ok (.iadd, 1) := by decide +kernel
theorem dX10_parts_163 : decode cX10_parts 163 = .ok (.putfield 224, 3) := by decide +kernel
theorem dX10_parts_166 : decode cX10_parts 166 = .ok (.aload_n 0, 1) := by decide +kernel
theorem dX10_parts_167 : decode cX10_parts 167 = .ok (.invokevirtual 254, 3) := by decide +kernel
theorem dX10_parts_170 : decode cX10_parts 170 = .ok (.iconst 0, 1) := by decide +kernel
theorem dX10_parts_171 : decode cX10_parts 171 = .ok (.ireturn, 1) := by decide +kernel
theorem dX10_draws_0 : decode cX10_draws 0 = .ok (.aload_n 0, 1) := by decide +kernel
theorem dX10_draws_1 : decode cX10_draws 1 = .ok (.iconst 0, 1) := by decide +kernel
theorem dX10_draws_2 : decode cX10_draws 2 = .ok (.putfield 224, 3) := by decide +kernel
theorem dX10_draws_5 : decode cX10_draws 5 = .ok (.aload_n 0, 1) := by decide +kernel
theorem dX10_draws_6 : decode cX10_draws 6 = .ok (.iconst 0, 1) := by decide +kernel
theorem dX10_draws_7 : decode cX10_draws 7 = .ok (.putfield 227, 3) := by decide +kernel
theorem dX10_draws_10 : decode cX10_draws 10 = .ok (.aload_n 0, 1) := by decide +kernel
theorem dX10_draws_11 : decode cX10_draws 11 = .ok (.invokevirtual 254, 3) := by decide +kernel
theorem dX10_draws_14 : decode cX10_draws 14 = .ok (.iconst 1, 1) := by decide +kernel
theorem dX10_draws_15 : decode cX10_draws 15 = .ok (.istore_n 1, 1) := by decide +kernel
theorem dX10_draws_16 : decode cX10_draws 16 = .ok (.iconst 1, 1) := by decide +kernel
theorem dX10_draws_17 : decode cX10_draws 17 = .ok (.istore_n 2, 1) := by decide +kernel
theorem dX10_draws_18 : decode cX10_draws 18 = .ok (.iload_n 2, 1) := by decide +kernel
theorem dX10_draws_19 : decode cX10_draws 19 = .ok (.ifCond .eq 234, 3) := by decide +kernel
theorem dX10_draws_22 : decode cX10_draws 22 = .ok (.aload_n 0, 1) := by decide +kernel
theorem dX10_draws_23 : decode cX10_draws 23 = .ok (.getfield 212, 3) := by decide +kernel
theorem dX10_draws_26 : decode cX10_draws 26 = .ok (.ifCond .ne 227, 3) := by decide +kernel
theorem dX10_draws_29 : decode cX10_draws 29 = .ok (.iload_n 1, 1) := by decide +kernel
theorem dX10_draws_30 : decode cX10_draws 30 = .ok (.ifCond .eq 22, 3) := by decide +kernel
theorem dX10_draws_33 : decode cX10_draws 33 = .ok (.aload_n 0, 1) := by decide +kernel
theorem dX10_draws_34 : decode cX10_draws 34 = .ok (.invokevirtual 257, 3) := by decide +kernel
theorem dX10_draws_37 : decode cX10_draws 37 = .ok (.ifCond .ne 6, 3) := by decide +kernel
theorem dX10_draws_40 : decode cX10_draws 40 = .ok (.goto (-22), 3) := by decide +kernel
theorem dX10_draws_43 : decode cX10_draws 43 = .ok (.aload_n 0, 1) := by decide +kernel
theorem dX10_draws_44 : decode cX10_draws 44 = .ok (.invokevirtual 261, 3) := by decide +kernel
theorem dX10_draws_47 : decode cX10_draws 47 = .ok (.iconst 0, 1) := by decide +kernel
theorem dX10_draws_48 : decode cX10_draws 48 = .ok (.istore_n 1, 1) := by decide +kernel
theorem dX10_draws_49 : decode cX10_draws 49 = .ok (.goto (-31), 3) := by decide +kernel
theorem dX10_draws_52 : decode cX10_draws 52 = .ok (.aload_n 0, 1) := by decide +kernel
theorem dX10_draws_53 : decode cX10_draws 53 = .ok (.invokevirtual 246, 3) := by decide +kernel
theorem dX10_draws_56 : decode cX10_draws 56 = .ok (.istore_n 3, 1) := by decide +kernel
theorem dX10_draws_57 : decode cX10_draws 57 = .ok (.iload_n 3, 1) := by decide +kernel
theorem dX10_draws_58 : decode cX10_draws 58 = .ok (.bipush 47, 2) := by decide +kernel
theorem dX10_draws_60 : decode cX10_draws 60 = .ok (.if_icmp .ne 31, 3) := by decide +kernel
theorem dX10_draws_63 : decode cX10_draws 63 = .ok (.aload_n 0, 1) := by decide +kernel
theorem dX10_draws_64 : decode cX10_draws 64 = .ok (.getfield 113, 3) := by decide +kernel
theorem dX10_draws_67 : decode cX10_draws 67 = .ok (.aload_n 0, 1) := by decide +kernel
theorem dX10_draws_68 : decode cX10_draws 68 = .ok (.getfield 224, 3) := by decide +kernel
theorem dX10_draws_71 : decode cX10_draws 71 = .ok (.aload_n 0, 1) := by decide +kernel
theorem dX10_draws_72 : decode cX10_draws 72 = .ok (.getfield 218, 3) := by decide +kernel
theorem dX10_draws_75 : decode cX10_draws 75 = .ok (.iastore, 1) := by decide +kernel
theorem dX10_draws_76 : decode cX10_draws 76 = .ok (.aload_n 0, 1) := by decide +kernel
theorem dX10_draws_77 : decode cX10_draws 77 = .ok (.dup, 1) := by decide +kernel
theorem dX10_draws_78 : decode cX10_draws 78 = .ok (.getfield 218, 3) := by decide +kernel
theorem dX10_draws_81 : decode cX10_draws 81 = .ok (.iconst 1, 1) := by decide +kernel
theorem dX10_draws_82 : decode cX10_draws 82 = .ok (.iadd, 1) := by decide +kernel
theorem dX10_draws_83 : decode cX10_draws 83 = .ok (.putfield 218, 3) := by decide +kernel
theorem dX10_draws_86 : decode cX10_draws 86 = .ok (.iconst 1, 1) := by decide +kernel
theorem dX10_draws_87 : decode cX10_draws 87 = .ok (.istore_n 1, 1) := by decide +kernel
theorem dX10_draws_88 : decode cX10_draws 88 = .ok (.goto (-70), 3) := by decide +kernel
theorem dX10_draws_91 : decode cX10_draws 91 = .ok (.aload_n 0, 1) := by decide +kernel
theorem dX10_draws_92 : decode cX10_draws 92 = .ok (.invokevirtual 264, 3) := by decide +kernel
theorem dX10_draws_95 : decode cX10_draws 95 = .ok (.aload_n 0, 1) := by decide +kernel
theorem dX10_draws_96 : decode cX10_draws 96 = .ok (.getfield 212, 3) := by decide +kernel
theorem dX10_draws_99 : decode cX10_draws 99 = .ok (.ifCond .ne 54, 3) := by decide +kernel
theorem dX10_draws_102 : decode cX10_draws 102 = .ok (.iload_n 3, 1) := by decide +kernel
theorem dX10_draws_103 : decode cX10_draws 103 = .ok (.bipush 124, 2) := by decide +kernel
theorem dX10_draws_105 : decode cX10_draws 105 = .ok (.if_icmp .eq 14, 3) := by decide +kernel
theorem dX10_draws_108 : decode cX10_draws 108 = .ok (.iload_n 3, 1) := by decide +kernel
theorem dX10_draws_109 : decode cX10_draws 109 = .ok (.bipush 41, 2) := by decide +kernel
theorem dX10_draws_111 : decode cX10_draws 111 = .ok (.if_icmp .eq 8, 3) := by decide +kernel
theorem dX10_draws_114 : decode cX10_draws 114 = .ok (.iload_n 3, 1) := by decide +kernel
theorem dX10_draws_115 : decode cX10_draws 115 = .ok (.iconst (-1), 1) := by decide +kernel
theorem dX10_draws_116 : decode cX10_draws 116 = .ok (.if_icmp .ne 28, 3) := by decide +kernel
theorem dX10_draws_119 : decode cX10_draws 119 = .ok (.iload_n 3, 1) := by decide +kernel
theorem dX10_draws_120 : decode cX10_draws 120 = .ok (.bipush 41, 2) := by decide +kernel
theorem dX10_draws_122 : decode cX10_draws 122 = .ok (.if_icmp .ne 10, 3) := by decide +kernel
theorem dX10_draws_125 : decode cX10_draws 125 = .ok (.aload_n 0, 1) := by decide +kernel
theorem dX10_draws_126 : decode cX10_draws 126 = .ok (.getfield 224, 3) := by decide +kernel
theorem dX10_draws_129 : decode cX10_draws 129 = .ok (.ifCond .eq 15, 3) := by decide +kernel
theorem dX10_draws_132 : decode cX10_draws 132 = .ok (.iload_n 3, 1) := by decide +kernel
theorem dX10_draws_133 : decode cX10_draws 133 = .ok (.iconst (-1), 1) := by decide +kernel
theorem dX10_draws_134 : decode cX10_draws 134 = .ok (.if_icmp .ne 19, 3) := by decide +kernel
theorem dX10_draws_137 : decode cX10_draws 137 = .ok (.aload_n 0, 1) := by decide +kernel
theorem dX10_draws_138 : decode cX10_draws 138 = .ok (.getfield 224, 3) := by decide +kernel
theorem dX10_draws_141 : decode cX10_draws 141 = .ok (.ifCond .le 12, 3) := by decide +kernel
theorem dX10_draws_144 : decode cX10_draws 144 = .ok (.aload_n 0, 1) := by decide +kernel
theorem dX10_draws_145 : decode cX10_draws 145 = .ok (.iconst 1, 1) := by decide +kernel
theorem dX10_draws_146 : decode cX10_draws 146 = .ok (.aload_n 0, 1) := by decide +kernel
theorem dX10_draws_147 : decode cX10_draws 147 = .ok (.getfield 218, 3) := by decide +kernel
theorem dX10_draws_150 : decode cX10_draws 150 = .ok (.invokevirtual 230, 3) := by decide +kernel
theorem dX10_draws_153 : decode cX10_draws 153 = .ok (.aload_n 0, 1) := by decide +kernel
theorem dX10_draws_154 : decode cX10_draws 154 = .ok (.getfield 212, 3) := by decide +kernel
theorem dX10_draws_157 : decode cX10_draws 157 = .ok (.ifCond .eq 6, 3) := by decide +kernel
theorem dX10_draws_160 : decode cX10_draws 160 = .ok (.goto (-142), 3) := by decide +kernel
theorem dX10_draws_163 : decode cX10_draws 163 = .ok (.iload_n 3, 1) := by decide +kernel
theorem dX10_draws_164 : decode cX10_draws 164 = .ok (.bipush 124, 2) := by decide +kernel
theorem dX10_draws_166 : decode cX10_draws 166 = .ok (.if_icmp .ne 31, 3) := by decide +kernel
theorem dX10_draws_169 : decode cX10_draws 169 = .ok (.aload_n 0, 1) := by decide +kernel
theorem dX10_draws_170 : decode cX10_draws 170 = .ok (.getfield 110, 3) := by decide +kernel
theorem dX10_draws_173 : decode cX10_draws 173 = .ok (.aload_n 0, 1) := by decide +kernel
theorem dX10_draws_174 : decode cX10_draws 174 = .ok (.getfield 224, 3) := by decide +kernel
theorem dX10_draws_177 : decode cX10_draws 177 = .ok (.aload_n 0, 1) := by decide +kernel
theorem dX10_draws_178 : decode cX10_draws 178 = .ok (.getfield 218, 3) := by decide +kernel
theorem dX10_draws_181 : decode cX10_draws 181 = .ok (.iastore, 1) := by decide +kernel
theorem dX10_draws_182 : decode cX10_draws 182 = .ok (.aload_n 0, 1) := by decide +kernel
theorem dX10_draws_183 : decode cX10_draws 183 = .ok (.dup, 1) := by decide +kernel
theorem dX10_draws_184 : decode cX10_draws 184 = .ok (.getfield 218, 3) := by decide +kernel
theorem dX10_draws_187 : decode cX10_draws 187 = .ok (.iconst 1, 1) := by decide +kernel
theorem dX10_draws_188 : decode cX10_draws 188 = .ok (.iadd, 1) := by decide +kernel
theorem dX10_draws_189 : decode cX10_draws 189 = .ok (.putfield 218, 3) := by decide +kernel
theorem dX10_draws_192 : decode cX10_draws 192 = .ok (.iconst 1, 1) := by decide +kernel
theorem dX10_draws_193 : decode cX10_draws 193 = .ok (.istore_n 1, 1) := by decide +kernel
theorem dX10_draws_194 : decode cX10_draws 194 = .ok (.goto 56, 3) := by decide +kernel
theorem dX10_draws_197 : decode cX10_draws 197 = .ok (.iload_n 3, 1) := by decide +kernel
theorem dX10_draws_198 : decode cX10_draws 198 = .ok (.bipush 41, 2) := by decide +kernel
theorem dX10_draws_200 : decode cX10_draws 200 = .ok (.if_icmp .ne 44, 3) := by decide +kernel
theorem dX10_draws_203 : decode cX10_draws 203 = .ok (.aload_n 0, 1) := by decide +kernel
theorem dX10_draws_204 : decode cX10_draws 204 = .ok (.dup, 1) := by decide +kernel
theorem dX10_draws_205 : decode cX10_draws 205 = .ok (.getfield 218, 3) := by decide +kernel
theorem dX10_draws_208 : decode cX10_draws 208 = .ok (.iconst 1, 1) := by decide +kernel
theorem dX10_draws_209 : decode cX10_draws 209 = .ok (.iadd, 1) := by decide +kernel
theorem dX10_draws_210 : decode cX10_draws 210 = .ok (.putfield 218, 3) := by decide +kernel
theorem dX10_draws_213 : decode cX10_draws 213 = .ok (.aload_n 0, 1) := by decide +kernel
theorem dX10_draws_214 : decode cX10_draws 214 = .ok (.invokevirtual 267, 3) := by decide +kernel
theorem dX10_draws_217 : decode cX10_draws 217 = .ok (.aload_n 0, 1) := by decide +kernel
theorem dX10_draws_218 : decode cX10_draws 218 = .ok (.dup, 1) := by decide +kernel
theorem dX10_draws_219 : decode cX10_draws 219 = .ok (.getfield 224, 3) := by decide +kernel
theorem dX10_draws_222 : decode cX10_draws 222 = .ok (.iconst 1, 1) := by decide +kernel
theorem dX10_draws_223 : decode cX10_draws 223 = .ok (.isub, 1) := by decide +kernel
theorem dX10_draws_224 : decode cX10_draws 224 = .ok (.putfield 224, 3) := by decide +kernel
theorem dX10_draws_227 : decode cX10_draws 227 = .ok (.aload_n 0, 1) := by decide +kernel
theorem dX10_draws_228 : decode cX10_draws 228 = .ok (.dup, 1) := by decide +kernel
theorem dX10_draws_229 : decode cX10_draws 229 = .ok (.getfield 227, 3) := by decide +kernel
theorem dX10_draws_232 : decode cX10_draws 232 = .ok (.iconst 1, 1) := by decide +kernel
theorem dX10_draws_233 : decode cX10_draws 233 = .ok (.isub, 1) := by decide +kernel
theorem dX10_draws_234 : decode cX10_draws 234 = .ok (.putfield 227, 3) := by decide +kernel
theorem dX10_draws_237 : decode cX10_draws 237 = .ok (.aload_n 0, 1) := by decide +kernel
theorem dX10_draws_238 : decode cX10_draws 238 = .ok (.invokevirtual 261, 3) := by decide +kernel
theorem dX10_draws_241 : decode cX10_draws 241 = .ok (.goto 9, 3) := by decide +kernel
theorem dX10_draws_244 : decode cX10_draws 244 = .ok (.aload_n 0, 1) := by decide +kernel
theorem dX10_draws_245 : decode cX10_draws 245 = .ok (.invokevirtual 267, 3) := by decide +kernel
theorem dX10_draws_248 : decode cX10_draws 248 = .ok (.iconst 0, 1) := by decide +kernel
theorem dX10_draws_249 : decode cX10_draws 249 = .ok (.istore_n 2, 1) := by decide +kernel
theorem dX10_draws_250 : decode cX10_draws 250 = .ok (.goto (-232), 3) := by decide +kernel
theorem dX10_draws_253 : decode cX10_draws 253 = .ok (.return_, 1) := by decide +kernel
theorem dX10_isDoor_0 : decode cX10_isDoor 0 = .ok (.iload_n 1, 1) := by decide +kernel
theorem dX10_isDoor_1 : decode cX10_isDoor 1 = .ok (.ifCond .lt 22, 3) := by decide +kernel
theorem dX10_isDoor_4 : decode cX10_isDoor 4 = .ok (.iload_n 1, 1) := by decide +kernel
theorem dX10_isDoor_5 : decode cX10_isDoor 5 = .ok (.bipush 8, 2) := by decide +kernel
theorem dX10_isDoor_7 : decode cX10_isDoor 7 = .ok (.if_icmp .ge 16, 3) := by decide +kernel
theorem dX10_isDoor_10 : decode cX10_isDoor 10 = .ok (.aload_n 0, 1) := by decide +kernel
theorem dX10_isDoor_11 : decode cX10_isDoor 11 = .ok (.getfield 125, 3) := by decide +kernel
theorem dX10_isDoor_14 : decode cX10_isDoor 14 = .ok (.iload_n 1, 1) := by decide +kernel
theorem dX10_isDoor_15 : decode cX10_isDoor 15 = .ok (.iaload, 1) := by decide +kernel
theorem dX10_isDoor_16 : decode cX10_isDoor 16 = .ok (.ifCond .le 7, 3) := by decide +kernel
theorem dX10_isDoor_19 : decode cX10_isDoor 19 = .ok (.iconst 1, 1) := by decide +kernel
theorem dX10_isDoor_20 : decode cX10_isDoor 20 = .ok (.goto 4, 3) := by decide +kernel
theorem dX10_isDoor_23 : decode cX10_isDoor 23 = .ok (.iconst 0, 1) := by decide +kernel
theorem dX10_isDoor_24 : decode cX10_isDoor 24 = .ok (.ireturn, 1) := by decide +kernel
theorem dX10_door_0 : decode cX10_door 0 = .ok (.iload_n 1, 1) := by decide +kernel
theorem dX10_door_1 : decode cX10_door 1 = .ok (.iconst 0, 1) := by decide +kernel
theorem dX10_door_2 : decode cX10_door 2 = .ok (.bipush 7, 2) := by decide +kernel
theorem dX10_door_4 : decode cX10_door 4 = .ok (.invokestatic 174, 3) := by decide +kernel
theorem dX10_door_7 : decode cX10_door 7 = .ok (.ifCond .eq 35, 3) := by decide +kernel
theorem dX10_door_10 : decode cX10_door 10 = .ok (.iload_n 2, 1) := by decide +kernel
theorem dX10_door_11 : decode cX10_door 11 = .ok (.iconst 1, 1) := by decide +kernel
theorem dX10_door_12 : decode cX10_door 12 = .ok (.bipush 60, 2) := by decide +kernel
theorem dX10_door_14 : decode cX10_door 14 = .ok (.invokestatic 174, 3) := by decide +kernel
theorem dX10_door_17 : decode cX10_door 17 = .ok (.ifCond .eq 25, 3) := by decide +kernel
theorem dX10_door_20 : decode cX10_door 20 = .ok (.iload_n 3, 1) := by decide +kernel
theorem dX10_door_21 : decode cX10_door 21 = .ok (.iconst 1, 1) := by decide +kernel
theorem dX10_door_22 : decode cX10_door 22 = .ok (.bipush 60, 2) := by decide +kernel
theorem dX10_door_24 : decode cX10_door 24 = .ok (.invokestatic 174, 3) := by decide +kernel
theorem dX10_door_27 : decode cX10_door 27 = .ok (.ifCond .eq 15, 3) := by decide +kernel
theorem dX10_door_30 : decode cX10_door 30 = .ok (.iload 4, 2) := by decide +kernel
theorem dX10_door_32 : decode cX10_door 32 = .ok (.iconst 0, 1) := by decide +kernel
theorem dX10_door_33 : decode cX10_door 33 = .ok (.sipush 200, 3) := by decide +kernel
theorem dX10_door_36 : decode cX10_door 36 = .ok (.invokestatic 174, 3) := by decide +kernel
theorem dX10_door_39 : decode cX10_door 39 = .ok (.ifCond .ne 6, 3) := by decide +kernel
theorem dX10_door_42 : decode cX10_door 42 = .ok (.bipush (-2), 2) := by decide +kernel
theorem dX10_door_44 : decode cX10_door 44 = .ok (.ireturn, 1) := by decide +kernel
theorem dX10_door_45 : decode cX10_door 45 = .ok (.aload_n 0, 1) := by decide +kernel
theorem dX10_door_46 : decode cX10_door 46 = .ok (.iconst 0, 1) := by decide +kernel
theorem dX10_door_47 : decode cX10_door 47 = .ok (.putfield 218, 3) := by decide +kernel
theorem dX10_door_50 : decode cX10_door 50 = .ok (.aload_n 0, 1) := by decide +kernel
theorem dX10_door_51 : decode cX10_door 51 = .ok (.aload_n 0, 1) := by decide +kernel
theorem dX10_door_52 : decode cX10_door 52 = .ok (.getfield 209, 3) := by decide +kernel
theorem dX10_door_55 : decode cX10_door 55 = .ok (.putfield 221, 3) := by decide +kernel
theorem dX10_door_58 : decode cX10_door 58 = .ok (.aload_n 0, 1) := by decide +kernel
theorem dX10_door_59 : decode cX10_door 59 = .ok (.iconst 0, 1) := by decide +kernel
theorem dX10_door_60 : decode cX10_door 60 = .ok (.putfield 209, 3) := by decide +kernel
theorem dX10_door_63 : decode cX10_door 63 = .ok (.aload_n 0, 1) := by decide +kernel
theorem dX10_door_64 : decode cX10_door 64 = .ok (.iconst 0, 1) := by decide +kernel
theorem dX10_door_65 : decode cX10_door 65 = .ok (.putfield 212, 3) := by decide +kernel
theorem dX10_door_68 : decode cX10_door 68 = .ok (.aload_n 0, 1) := by decide +kernel
theorem dX10_door_69 : decode cX10_door 69 = .ok (.iconst (-1), 1) := by decide +kernel
theorem dX10_door_70 : decode cX10_door 70 = .ok (.putfield 215, 3) := by decide +kernel
theorem dX10_door_73 : decode cX10_door 73 = .ok (.aload_n 0, 1) := by decide +kernel
theorem dX10_door_74 : decode cX10_door 74 = .ok (.invokevirtual 270, 3) := by decide +kernel
theorem dX10_door_77 : decode cX10_door 77 = .ok (.aload_n 0, 1) := by decide +kernel
theorem dX10_door_78 : decode cX10_door 78 = .ok (.aload_n 0, 1) := by decide +kernel
theorem dX10_door_79 : decode cX10_door 79 = .ok (.getfield 212, 3) := by decide +kernel
theorem dX10_door_82 : decode cX10_door 82 = .ok (.putfield 273, 3) := by decide +kernel
theorem dX10_door_85 : decode cX10_door 85 = .ok (.aload_n 0, 1) := by decide +kernel
theorem dX10_door_86 : decode cX10_door 86 = .ok (.aload_n 0, 1) := by decide +kernel
theorem dX10_door_87 : decode cX10_door 87 = .ok (.getfield 215, 3) := by decide +kernel
theorem dX10_door_90 : decode cX10_door 90 = .ok (.putfield 82, 3) := by decide +kernel
theorem dX10_door_93 : decode cX10_door 93 = .ok (.aload_n 0, 1) := by decide +kernel
theorem dX10_door_94 : decode cX10_door 94 = .ok (.getfield 212, 3) := by decide +kernel
theorem dX10_door_97 : decode cX10_door 97 = .ok (.ifCond .eq 5, 3) := by decide +kernel
theorem dX10_door_100 : decode cX10_door 100 = .ok (.iconst (-1), 1) := by decide +kernel
theorem dX10_door_101 : decode cX10_door 101 = .ok (.ireturn, 1) := by decide +kernel
theorem dX10_door_102 : decode cX10_door 102 = .ok (.aload_n 0, 1) := by decide +kernel
theorem dX10_door_103 : decode cX10_door 103 = .ok (.getfield 125, 3) := by decide +kernel
theorem dX10_door_106 : decode cX10_door 106 = .ok (.iload_n 1, 1) := by decide +kernel
theorem dX10_door_107 : decode cX10_door 107 = .ok (.aload_n 0, 1) := by decide +kernel
theorem dX10_door_108 : decode cX10_door 108 = .ok (.getfield 236, 3) := by decide +kernel
theorem dX10_door_111 : decode cX10_door 111 = .ok (.iastore, 1) := by decide +kernel
theorem dX10_door_112 : decode cX10_door 112 = .ok (.aload_n 0, 1) := by decide +kernel
theorem dX10_door_113 : decode cX10_door 113 = .ok (.getfield 128, 3) := by decide +kernel
theorem dX10_door_116 : decode cX10_door 116 = .ok (.iload_n 1, 1) := by decide +kernel
theorem dX10_door_117 : decode cX10_door 117 = .ok (.aload_n 0, 1) := by decide +kernel
theorem dX10_door_118 : decode cX10_door 118 = .ok (.getfield 233, 3) := by decide +kernel
theorem dX10_door_121 : decode cX10_door 121 = .ok (.iastore, 1) := by decide +kernel
theorem dX10_door_122 : decode cX10_door 122 = .ok (.iconst 0, 1) := by decide +kernel
theorem dX10_door_123 : decode cX10_door 123 = .ok (.istore 5, 2) := by decide +kernel
theorem dX10_door_125 : decode cX10_door 125 = .ok (.iload 5, 2) := by decide +kernel
theorem dX10_door_127 : decode cX10_door 127 = .ok (.bipush 64, 2) := by decide +kernel
theorem dX10_door_129 : decode cX10_door 129 = .ok (.if_icmp .ge 28, 3) := by decide +kernel
theorem dX10_door_132 : decode cX10_door 132 = .ok (.aload_n 0, 1) := by decide +kernel
theorem dX10_door_133 : decode cX10_door 133 = .ok (.getfield 131, 3) := by decide +kernel
theorem dX10_door_136 : decode cX10_door 136 = .ok (.bipush 64, 2) := by decide +kernel
theorem dX10_door_138 : decode cX10_door 138 = .ok (.iload_n 1, 1) := by decide +kernel
theorem dX10_door_139 : decode cX10_door 139 = .ok (.imul, 1) := by decide +kernel
theorem dX10_door_140 : decode cX10_door 140 = .ok (.iload 5, 2) := by decide +kernel
theorem dX10_door_142 : decode cX10_door 142 = .ok (.iadd, 1) := by decide +kernel
theorem dX10_door_143 : decode cX10_door 143 = .ok (.aload_n 0, 1) := by decide +kernel
theorem dX10_door_144 : decode cX10_door 144 = .ok (.getfield 86, 3) := by decide +kernel
theorem dX10_door_147 : decode cX10_door 147 = .ok (.iload 5, 2) := by decide +kernel
theorem dX10_door_149 : decode cX10_door 149 = .ok (.iaload, 1) := by decide +kernel
theorem dX10_door_150 : decode cX10_door 150 = .ok (.iastore, 1) := by decide +kernel
theorem dX10_door_151 : decode cX10_door 151 = .ok (.iinc 5 1, 3) := by decide +kernel
theorem dX10_door_154 : decode cX10_door 154 = .ok (.goto (-29), 3) := by decide +kernel
theorem dX10_door_157 : decode cX10_door 157 = .ok (.aload_n 0, 1) := by decide +kernel
theorem dX10_door_158 : decode cX10_door 158 = .ok (.getfield 134, 3) := by decide +kernel
theorem dX10_door_161 : decode cX10_door 161 = .ok (.iload_n 1, 1) := by decide +kernel
theorem dX10_door_162 : decode cX10_door 162 = .ok (.iload_n 2, 1) := by decide +kernel
theorem dX10_door_163 : decode cX10_door 163 = .ok (.iastore, 1) := by decide +kernel
theorem dX10_door_164 : decode cX10_door 164 = .ok (.aload_n 0, 1) := by decide +kernel
theorem dX10_door_165 : decode cX10_door 165 = .ok (.getfield 137, 3) := by decide +kernel
theorem dX10_door_168 : decode cX10_door 168 = .ok (.iload_n 1, 1) := by decide +kernel
theorem dX10_door_169 : decode cX10_door 169 = .ok (.iload_n 3, 1) := by decide +kernel
theorem dX10_door_170 : decode cX10_door 170 = .ok (.iastore, 1) := by decide +kernel
theorem dX10_door_171 : decode cX10_door 171 = .ok (.aload_n 0, 1) := by decide +kernel
theorem dX10_door_172 : decode cX10_door 172 = .ok (.getfield 140, 3) := by decide +kernel
theorem dX10_door_175 : decode cX10_door 175 = .ok (.iload_n 1, 1) := by decide +kernel
theorem dX10_door_176 : decode cX10_door 176 = .ok (.iload 4, 2) := by decide +kernel
theorem dX10_door_178 : decode cX10_door 178 = .ok (.iastore, 1) := by decide +kernel
theorem dX10_door_179 : decode cX10_door 179 = .ok (.aload_n 0, 1) := by decide +kernel
theorem dX10_door_180 : decode cX10_door 180 = .ok (.getfield 143, 3) := by decide +kernel
theorem dX10_door_183 : decode cX10_door 183 = .ok (.iload_n 1, 1) := by decide +kernel
theorem dX10_door_184 : decode cX10_door 184 = .ok (.iconst (-1), 1) := by decide +kernel
theorem dX10_door_185 : decode cX10_door 185 = .ok (.iastore, 1) := by decide +kernel
theorem dX10_door_186 : decode cX10_door 186 = .ok (.iconst 0, 1) := by decide +kernel
theorem dX10_door_187 : decode cX10_door 187 = .ok (.istore 5, 2) := by decide +kernel
theorem dX10_door_189 : decode cX10_door 189 = .ok (.iload 5, 2) := by decide +kernel
theorem dX10_door_191 : decode cX10_door 191 = .ok (.aload_n 0, 1) := by decide +kernel
theorem dX10_door_192 : decode cX10_door 192 = .ok (.getfield 171, 3) := by decide +kernel
theorem dX10_door_195 : decode cX10_door 195 = .ok (.if_icmp .ge 28, 3) := by decide +kernel
theorem dX10_door_198 : decode cX10_door 198 = .ok (.aload_n 0, 1) := by decide +kernel
theorem dX10_door_199 : decode cX10_door 199 = .ok (.getfield 76, 3) := by decide +kernel
theorem dX10_door_202 : decode cX10_door 202 = .ok (.iload 5, 2) := by decide +kernel
theorem dX10_door_204 : decode cX10_door 204 = .ok (.iaload, 1) := by decide +kernel
theorem dX10_door_205 : decode cX10_door 205 = .ok (.iload_n 1, 1) := by decide +kernel
theorem dX10_door_206 : decode cX10_door 206 = .ok (.if_icmp .ne 11, 3) := by decide +kernel
theorem dX10_door_209 : decode cX10_door 209 = .ok (.aload_n 0, 1) := by decide +kernel
theorem dX10_door_210 : decode cX10_door 210 = .ok (.getfield 76, 3) := by decide +kernel
theorem dX10_door_213 : decode cX10_door 213 = .ok (.iload 5, 2) := by decide +kernel
theorem dX10_door_215 : decode cX10_door 215 = .ok (.iconst (-1), 1) := by decide +kernel
theorem dX10_door_216 : decode cX10_door 216 = .ok (.iastore, 1) := by decide +kernel
theorem dX10_door_217 : decode cX10_door 217 = .ok (.iinc 5 1, 3) := by decide +kernel
theorem dX10_door_220 : decode cX10_door 220 = .ok (.goto (-31), 3) := by decide +kernel
theorem dX10_door_223 : decode cX10_door 223 = .ok (.aload_n 0, 1) := by decide +kernel
theorem dX10_door_224 : decode cX10_door 224 = .ok (.getfield 236, 3) := by decide +kernel
theorem dX10_door_227 : decode cX10_door 227 = .ok (.aload_n 0, 1) := by decide +kernel
theorem dX10_door_228 : decode cX10_door 228 = .ok (.getfield 233, 3) := by decide +kernel
theorem dX10_door_231 : decode cX10_door 231 = .ok (.imul, 1) := by decide +kernel
theorem dX10_door_232 : decode cX10_door 232 = .ok (.ireturn, 1) := by decide +kernel
theorem dX10_fault_0 : decode cX10_fault 0 = .ok (.iload_n 1, 1) := by decide +kernel
theorem dX10_fault_1 : decode cX10_fault 1 = .ok (.ifCond .ne 10, 3) := by decide +kernel
theorem dX10_fault_4 : decode cX10_fault 4 = .ok (.aload_n 0, 1) := by decide +kernel
theorem dX10_fault_5 : decode cX10_fault 5 = .ok (.getfield 273, 3) := by decide +kernel
theorem dX10_fault_8 : decode cX10_fault 8 = .ok (.goto 16, 3) := by decide +kernel
theorem dX10_fault_11 : decode cX10_fault 11 = .ok (.iload_n 1, 1) := by decide +kernel
theorem dX10_fault_12 : decode cX10_fault 12 = .ok (.iconst 1, 1) := by decide +kernel
theorem dX10_fault_13 : decode cX10_fault 13 = .ok (.if_icmp .ne 10, 3) := by decide +kernel
theorem dX10_fault_16 : decode cX10_fault 16 = .ok (.aload_n 0, 1) := by decide +kernel
theorem dX10_fault_17 : decode cX10_fault 17 = .ok (.getfield 82, 3) := by decide +kernel
theorem dX10_fault_20 : decode cX10_fault 20 = .ok (.goto 4, 3) := by decide +kernel
theorem dX10_fault_23 : decode cX10_fault 23 = .ok (.iconst (-1), 1) := by decide +kernel
theorem dX10_fault_24 : decode cX10_fault 24 = .ok (.ireturn, 1) := by decide +kernel
theorem dX10_pieceOf_0 : decode cX10_pieceOf 0 = .ok (.aload_n 0, 1) := by decide +kernel
theorem dX10_pieceOf_1 : decode cX10_pieceOf 1 = .ok (.getfield 131, 3) := by decide +kernel
theorem dX10_pieceOf_4 : decode cX10_pieceOf 4 = .ok (.bipush 64, 2) := by decide +kernel
theorem dX10_pieceOf_6 : decode cX10_pieceOf 6 = .ok (.iload_n 1, 1) := by decide +kernel
theorem dX10_pieceOf_7 : decode cX10_pieceOf 7 = .ok (.imul, 1) := by decide +kernel
theorem dX10_pieceOf_8 : decode cX10_pieceOf 8 = .ok (.bipush 8, 2) := by decide +kernel
theorem dX10_pieceOf_10 : decode cX10_pieceOf 10 = .ok (.iload_n 3, 1) := by decide +kernel
theorem dX10_pieceOf_11 : decode cX10_pieceOf 11 = .ok (.imul, 1) := by decide +kernel
theorem dX10_pieceOf_12 : decode cX10_pieceOf 12 = .ok (.iadd, 1) := by decide +kernel
theorem dX10_pieceOf_13 : decode cX10_pieceOf 13 = .ok (.iload_n 2, 1) := by decide +kernel
theorem dX10_pieceOf_14 : decode cX10_pieceOf 14 = .ok (.iadd, 1) := by decide +kernel
theorem dX10_pieceOf_15 : decode cX10_pieceOf 15 = .ok (.iaload, 1) := by decide +kernel
theorem dX10_pieceOf_16 : decode cX10_pieceOf 16 = .ok (.ireturn, 1) := by decide +kernel
theorem dX10_jointOf_0 : decode cX10_jointOf 0 = .ok (.iload_n 1, 1) := by decide +kernel
theorem dX10_jointOf_1 : decode cX10_jointOf 1 = .ok (.bipush 15, 2) := by decide +kernel
theorem dX10_jointOf_3 : decode cX10_jointOf 3 = .ok (.iand, 1) := by decide +kernel
theorem dX10_jointOf_4 : decode cX10_jointOf 4 = .ok (.iload_n 0, 1) := by decide +kernel
theorem dX10_jointOf_5 : decode cX10_jointOf 5 = .ok (.bipush 15, 2) := by decide +kernel
theorem dX10_jointOf_7 : decode cX10_jointOf 7 = .ok (.iand, 1) := by decide +kernel
theorem dX10_jointOf_8 : decode cX10_jointOf 8 = .ok (.isub, 1) := by decide +kernel
theorem dX10_jointOf_9 : decode cX10_jointOf 9 = .ok (.istore_n 3, 1) := by decide +kernel
theorem dX10_jointOf_10 : decode cX10_jointOf 10 = .ok (.iload_n 0, 1) := by decide +kernel
theorem dX10_jointOf_11 : decode cX10_jointOf 11 = .ok (.iload_n 1, 1) := by decide +kernel
theorem dX10_jointOf_12 : decode cX10_jointOf 12 = .ok (.ixor, 1) := by decide +kernel
theorem dX10_jointOf_13 : decode cX10_jointOf 13 = .ok (.bipush 16, 2) := by decide +kernel
theorem dX10_jointOf_15 : decode cX10_jointOf 15 = .ok (.iand, 1) := by decide +kernel
theorem dX10_jointOf_16 : decode cX10_jointOf 16 = .ok (.ifCond .eq 7, 3) := by decide +kernel
theorem dX10_jointOf_19 : decode cX10_jointOf 19 = .ok (.iconst 1, 1) := by decide +kernel
theorem dX10_jointOf_20 : decode cX10_jointOf 20 = .ok (.goto 4, 3) := by decide +kernel
theorem dX10_jointOf_23 : decode cX10_jointOf 23 = .ok (.iconst 0, 1) := by decide +kernel
theorem dX10_jointOf_24 : decode cX10_jointOf 24 = .ok (.istore 4, 2) := by decide +kernel
theorem dX10_jointOf_26 : decode cX10_jointOf 26 = .ok (.iload_n 0, 1) := by decide +kernel
theorem dX10_jointOf_27 : decode cX10_jointOf 27 = .ok (.iload_n 1, 1) := by decide +kernel
theorem dX10_jointOf_28 : decode cX10_jointOf 28 = .ok (.ixor, 1) := by decide +kernel
theorem dX10_jointOf_29 : decode cX10_jointOf 29 = .ok (.bipush 32, 2) := by decide +kernel
theorem dX10_jointOf_31 : decode cX10_jointOf 31 = .ok (.iand, 1) := by decide +kernel
theorem dX10_jointOf_32 : decode cX10_jointOf 32 = .ok (.ifCond .eq 7, 3) := by decide +kernel
theorem dX10_jointOf_35 : decode cX10_jointOf 35 = .ok (.iconst 1, 1) := by decide +kernel
theorem dX10_jointOf_36 : decode cX10_jointOf 36 = .ok (.goto 4, 3) := by decide +kernel
theorem dX10_jointOf_39 : decode cX10_jointOf 39 = .ok (.iconst 0, 1) := by decide +kernel
theorem dX10_jointOf_40 : decode cX10_jointOf 40 = .ok (.istore 5, 2) := by decide +kernel
theorem dX10_jointOf_42 : decode cX10_jointOf 42 = .ok (.iload_n 3, 1) := by decide +kernel
theorem dX10_jointOf_43 : decode cX10_jointOf 43 = .ok (.iconst 1, 1) := by decide +kernel
theorem dX10_jointOf_44 : decode cX10_jointOf 44 = .ok (.if_icmp .eq 8, 3) := by decide +kernel
theorem dX10_jointOf_47 : decode cX10_jointOf 47 = .ok (.iload_n 3, 1) := by decide +kernel
theorem dX10_jointOf_48 : decode cX10_jointOf 48 = .ok (.iconst (-1), 1) := by decide +kernel
theorem dX10_jointOf_49 : decode cX10_jointOf 49 = .ok (.if_icmp .ne 7, 3) := by decide +kernel
theorem dX10_jointOf_52 : decode cX10_jointOf 52 = .ok (.iconst 1, 1) := by decide +kernel
theorem dX10_jointOf_53 : decode cX10_jointOf 53 = .ok (.goto 4, 3) := by decide +kernel
theorem dX10_jointOf_56 : decode cX10_jointOf 56 = .ok (.iconst 0, 1) := by decide +kernel
theorem dX10_jointOf_57 : decode cX10_jointOf 57 = .ok (.istore 6, 2) := by decide +kernel
theorem dX10_jointOf_59 : decode cX10_jointOf 59 = .ok (.iload_n 2, 1) := by decide +kernel
theorem dX10_jointOf_60 : decode cX10_jointOf 60 = .ok (.ifCond .eq 24, 3) := by decide +kernel
theorem dX10_jointOf_63 : decode cX10_jointOf 63 = .ok (.iload 6, 2) := by decide +kernel
theorem dX10_jointOf_65 : decode cX10_jointOf 65 = .ok (.ifCond .eq 17, 3) := by decide +kernel
theorem dX10_jointOf_68 : decode cX10_jointOf 68 = .ok (.iload 4, 2) := by decide +kernel
theorem dX10_jointOf_70 : decode cX10_jointOf 70 = .ok (.ifCond .ne 12, 3) := by decide +kernel
theorem dX10_jointOf_73 : decode cX10_jointOf 73 = .ok (.iload 5, 2) := by decide +kernel
theorem dX10_jointOf_75 : decode cX10_jointOf 75 = .ok (.ifCond .eq 7, 3) := by decide +kernel
theorem dX10_jointOf_78 : decode cX10_jointOf 78 = .ok (.iconst 2, 1) := by decide +kernel
theorem dX10_jointOf_79 : decode cX10_jointOf 79 = .ok (.goto 4, 3) := by decide +kernel
theorem dX10_jointOf_82 : decode cX10_jointOf 82 = .ok (.iconst 0, 1) := by decide +kernel
theorem dX10_jointOf_83 : decode cX10_jointOf 83 = .ok (.ireturn, 1) := by decide +kernel
theorem dX10_jointOf_84 : decode cX10_jointOf 84 = .ok (.iload 6, 2) := by decide +kernel
theorem dX10_jointOf_86 : decode cX10_jointOf 86 = .ok (.ifCond .eq 15, 3) := by decide +kernel
theorem dX10_jointOf_89 : decode cX10_jointOf 89 = .ok (.iload 5, 2) := by decide +kernel
theorem dX10_jointOf_91 : decode cX10_jointOf 91 = .ok (.ifCond .ne 10, 3) := by decide +kernel
theorem dX10_jointOf_94 : decode cX10_jointOf 94 = .ok (.iload 4, 2) := by decide +kernel
theorem dX10_jointOf_96 : decode cX10_jointOf 96 = .ok (.ifCond .eq 5, 3) := by decide +kernel
theorem dX10_jointOf_99 : decode cX10_jointOf 99 = .ok (.iconst 2, 1) := by decide +kernel
theorem dX10_jointOf_100 : decode cX10_jointOf 100 = .ok (.ireturn, 1) := by decide +kernel
theorem dX10_jointOf_101 : decode cX10_jointOf 101 = .ok (.iload 5, 2) := by decide +kernel
theorem dX10_jointOf_103 : decode cX10_jointOf 103 = .ok (.ifCond .ne 8, 3) := by decide +kernel
theorem dX10_jointOf_106 : decode cX10_jointOf 106 = .ok (.iload 4, 2) := by decide +kernel
theorem dX10_jointOf_108 : decode cX10_jointOf 108 = .ok (.ifCond .eq 5, 3) := by decide +kernel
theorem dX10_jointOf_111 : decode cX10_jointOf 111 = .ok (.iconst 0, 1) := by decide +kernel
theorem dX10_jointOf_112 : decode cX10_jointOf 112 = .ok (.ireturn, 1) := by decide +kernel
theorem dX10_jointOf_113 : decode cX10_jointOf 113 = .ok (.iload_n 0, 1) := by decide +kernel
theorem dX10_jointOf_114 : decode cX10_jointOf 114 = .ok (.bipush 16, 2) := by decide +kernel
theorem dX10_jointOf_116 : decode cX10_jointOf 116 = .ok (.iand, 1) := by decide +kernel
theorem dX10_jointOf_117 : decode cX10_jointOf 117 = .ok (.ifCond .ne 16, 3) := by decide +kernel
theorem dX10_jointOf_120 : decode cX10_jointOf 120 = .ok (.iload_n 3, 1) := by decide +kernel
theorem dX10_jointOf_121 : decode cX10_jointOf 121 = .ok (.iconst 1, 1) := by decide +kernel
theorem dX10_jointOf_122 : decode cX10_jointOf 122 = .ok (.if_icmp .ne 7, 3) := by decide +kernel
theorem dX10_jointOf_125 : decode cX10_jointOf 125 = .ok (.iconst 1, 1) := by decide +kernel
theorem dX10_jointOf_126 : decode cX10_jointOf 126 = .ok (.goto 17, 3) := by decide +kernel
theorem dX10_jointOf_129 : decode cX10_jointOf 129 = .ok (.iconst 0, 1) := by decide +kernel
theorem dX10_jointOf_130 : decode cX10_jointOf 130 = .ok (.goto 13, 3) := by decide +kernel
theorem dX10_jointOf_133 : decode cX10_jointOf 133 = .ok (.iload_n 3, 1) := by decide +kernel
theorem dX10_jointOf_134 : decode cX10_jointOf 134 = .ok (.iconst (-1), 1) := by decide +kernel
theorem dX10_jointOf_135 : decode cX10_jointOf 135 = .ok (.if_icmp .ne 7, 3) := by decide +kernel
theorem dX10_jointOf_138 : decode cX10_jointOf 138 = .ok (.iconst 1, 1) := by decide +kernel
theorem dX10_jointOf_139 : decode cX10_jointOf 139 = .ok (.goto 4, 3) := by decide +kernel
theorem dX10_jointOf_142 : decode cX10_jointOf 142 = .ok (.iconst 0, 1) := by decide +kernel
theorem dX10_jointOf_143 : decode cX10_jointOf 143 = .ok (.ireturn, 1) := by decide +kernel
theorem dX10_joint_0 : decode cX10_joint 0 = .ok (.aload_n 0, 1) := by decide +kernel
theorem dX10_joint_1 : decode cX10_joint 1 = .ok (.iload_n 1, 1) := by decide +kernel
theorem dX10_joint_2 : decode cX10_joint 2 = .ok (.invokevirtual 276, 3) := by decide +kernel
theorem dX10_joint_5 : decode cX10_joint 5 = .ok (.ifCond .eq 53, 3) := by decide +kernel
theorem dX10_joint_8 : decode cX10_joint 8 = .ok (.iload_n 2, 1) := by decide +kernel
theorem dX10_joint_9 : decode cX10_joint 9 = .ok (.ifCond .lt 49, 3) := by decide +kernel
theorem dX10_joint_12 : decode cX10_joint 12 = .ok (.iload_n 3, 1) := by decide +kernel
theorem dX10_joint_13 : decode cX10_joint 13 = .ok (.ifCond .lt 45, 3) := by decide +kernel
theorem dX10_joint_16 : decode cX10_joint 16 = .ok (.iload_n 2, 1) := by decide +kernel
theorem dX10_joint_17 : decode cX10_joint 17 = .ok (.aload_n 0, 1) := by decide +kernel
theorem dX10_joint_18 : decode cX10_joint 18 = .ok (.getfield 125, 3) := by decide +kernel
theorem dX10_joint_21 : decode cX10_joint 21 = .ok (.iload_n 1, 1) := by decide +kernel
theorem dX10_joint_22 : decode cX10_joint 22 = .ok (.iaload, 1) := by decide +kernel
theorem dX10_joint_23 : decode cX10_joint 23 = .ok (.iload 4, 2) := by decide +kernel
theorem dX10_joint_25 : decode cX10_joint 25 = .ok (.ifCond .eq 7, 3) := by decide +kernel
theorem dX10_joint_28 : decode cX10_joint 28 = .ok (.iconst 0, 1) := by decide +kernel
theorem dX10_joint_29 : decode cX10_joint 29 = .ok (.goto 4, 3) := by decide +kernel
theorem dX10_joint_32 : decode cX10_joint 32 = .ok (.iconst 1, 1) := by decide +kernel
theorem dX10_joint_33 : decode cX10_joint 33 = .ok (.isub, 1) := by decide +kernel
theorem dX10_joint_34 : decode cX10_joint 34 = .ok (.if_icmp .ge 24, 3) := by decide +kernel
theorem dX10_joint_37 : decode cX10_joint 37 = .ok (.iload_n 3, 1) := by decide +kernel
theorem dX10_joint_38 : decode cX10_joint 38 = .ok (.aload_n 0, 1) := by decide +kernel
theorem dX10_joint_39 : decode cX10_joint 39 = .ok (.getfield 128, 3) := by decide +kernel
theorem dX10_joint_42 : decode cX10_joint 42 = .ok (.iload_n 1, 1) := by decide +kernel
theorem dX10_joint_43 : decode cX10_joint 43 = .ok (.iaload, 1) := by decide +kernel
theorem dX10_joint_44 : decode cX10_joint 44 = .ok (.iload 4, 2) := by decide +kernel
theorem dX10_joint_46 : decode cX10_joint 46 = .ok (.ifCond .eq 7, 3) := by decide +kernel
theorem dX10_joint_49 : decode cX10_joint 49 = .ok (.iconst 1, 1) := by decide +kernel
theorem dX10_joint_50 : decode cX10_joint 50 = .ok (.goto 4, 3) := by decide +kernel
theorem dX10_joint_53 : decode cX10_joint 53 = .ok (.iconst 0, 1) := by decide +kernel
theorem dX10_joint_54 : decode cX10_joint 54 = .ok (.isub, 1) := by decide +kernel
theorem dX10_joint_55 : decode cX10_joint 55 = .ok (.if_icmp .lt 5, 3) := by decide +kernel
theorem dX10_joint_58 : decode cX10_joint 58 = .ok (.iconst (-1), 1) := by decide +kernel
theorem dX10_joint_59 : decode cX10_joint 59 = .ok (.ireturn, 1) := by decide +kernel
theorem dX10_joint_60 : decode cX10_joint 60 = .ok (.aload_n 0, 1) := by decide +kernel
theorem dX10_joint_61 : decode cX10_joint 61 = .ok (.iload_n 1, 1) := by decide +kernel
theorem dX10_joint_62 : decode cX10_joint 62 = .ok (.iload_n 2, 1) := by decide +kernel
theorem dX10_joint_63 : decode cX10_joint 63 = .ok (.iload_n 3, 1) := by decide +kernel
theorem dX10_joint_64 : decode cX10_joint 64 = .ok (.invokevirtual 279, 3) := by decide +kernel
theorem dX10_joint_67 : decode cX10_joint 67 = .ok (.iload 4, 2) := by decide +kernel
theorem dX10_joint_69 : decode cX10_joint 69 = .ok (.ifCond .eq 15, 3) := by decide +kernel
theorem dX10_joint_72 : decode cX10_joint 72 = .ok (.aload_n 0, 1) := by decide +kernel
theorem dX10_joint_73 : decode cX10_joint 73 = .ok (.iload_n 1, 1) := by decide +kernel
theorem dX10_joint_74 : decode cX10_joint 74 = .ok (.iload_n 2, 1) := by decide +kernel
theorem dX10_joint_75 : decode cX10_joint 75 = .ok (.iload_n 3, 1) := by decide +kernel
theorem dX10_joint_76 : decode cX10_joint 76 = .ok (.iconst 1, 1) := by decide +kernel
theorem dX10_joint_77 : decode cX10_joint 77 = .ok (.iadd, 1) := by decide +kernel
theorem dX10_joint_78 : decode cX10_joint 78 = .ok (.invokevirtual 279, 3) := by decide +kernel
theorem dX10_joint_81 : decode cX10_joint 81 = .ok (.goto 12, 3) := by decide +kernel
theorem dX10_joint_84 : decode cX10_joint 84 = .ok (.aload_n 0, 1) := by decide +kernel
theorem dX10_joint_85 : decode cX10_joint 85 = .ok (.iload_n 1, 1) := by decide +kernel
theorem dX10_joint_86 : decode cX10_joint 86 = .ok (.iload_n 2, 1) := by decide +kernel
theorem dX10_joint_87 : decode cX10_joint 87 = .ok (.iconst 1, 1) := by decide +kernel
theorem dX10_joint_88 : decode cX10_joint 88 = .ok (.iadd, 1) := by decide +kernel
theorem dX10_joint_89 : decode cX10_joint 89 = .ok (.iload_n 3, 1) := by decide +kernel
theorem dX10_joint_90 : decode cX10_joint 90 = .ok (.invokevirtual 279, 3) := by decide +kernel
theorem dX10_joint_93 : decode cX10_joint 93 = .ok (.iload 4, 2) := by decide +kernel
theorem dX10_joint_95 : decode cX10_joint 95 = .ok (.invokestatic 283, 3) := by decide +kernel
theorem dX10_joint_98 : decode cX10_joint 98 = .ok (.ireturn, 1) := by decide +kernel
theorem dX10_joints_0 : decode cX10_joints 0 = .ok (.iconst 0, 1) := by decide +kernel
theorem dX10_joints_1 : decode cX10_joints 1 = .ok (.istore_n 3, 1) := by decide +kernel
theorem dX10_joints_2 : decode cX10_joints 2 = .ok (.iconst 0, 1) := by decide +kernel
theorem dX10_joints_3 : decode cX10_joints 3 = .ok (.istore 4, 2) := by decide +kernel
theorem dX10_joints_5 : decode cX10_joints 5 = .ok (.iload 4, 2) := by decide +kernel
theorem dX10_joints_7 : decode cX10_joints 7 = .ok (.aload_n 0, 1) := by decide +kernel
theorem dX10_joints_8 : decode cX10_joints 8 = .ok (.getfield 128, 3) := by decide +kernel
theorem dX10_joints_11 : decode cX10_joints 11 = .ok (.iload_n 1, 1) := by decide +kernel
theorem dX10_joints_12 : decode cX10_joints 12 = .ok (.iaload, 1) := by decide +kernel
theorem dX10_joints_13 : decode cX10_joints 13 = .ok (.if_icmp .ge 63, 3) := by decide +kernel
theorem dX10_joints_16 : decode cX10_joints 16 = .ok (.iconst 0, 1) := by decide +kernel
theorem dX10_joints_17 : decode cX10_joints 17 = .ok (.istore 5, 2) := by decide +kernel
theorem dX10_joints_19 : decode cX10_joints 19 = .ok (.iload 5, 2) := by decide +kernel
theorem dX10_joints_21 : decode cX10_joints 21 = .ok (.aload_n 0, 1) := by decide +kernel
theorem dX10_joints_22 : decode cX10_joints 22 = .ok (.getfield 125, 3) := by decide +kernel
theorem dX10_joints_25 : decode cX10_joints 25 = .ok (.iload_n 1, 1) := by decide +kernel
theorem dX10_joints_26 : decode cX10_joints 26 = .ok (.iaload, 1) := by decide +kernel
theorem dX10_joints_27 : decode cX10_joints 27 = .ok (.if_icmp .ge 43, 3) := by decide +kernel
theorem dX10_joints_30 : decode cX10_joints 30 = .ok (.aload_n 0, 1) := by decide +kernel
theorem dX10_joints_31 : decode cX10_joints 31 = .ok (.iload_n 1, 1) := by decide +kernel
theorem dX10_joints_32 : decode cX10_joints 32 = .ok (.iload 5, 2) := by decide +kernel
theorem dX10_joints_34 : decode cX10_joints 34 = .ok (.iload 4, 2) := by decide +kernel
theorem dX10_joints_36 : decode cX10_joints 36 = .ok (.iconst 0, 1) := by decide +kernel
theorem dX10_joints_37 : decode cX10_joints 37 = .ok (.invokevirtual 287, 3) := by decide +kernel
theorem dX10_joints_40 : decode cX10_joints 40 = .ok (.iload_n 2, 1) := by decide +kernel
theorem dX10_joints_41 : decode cX10_joints 41 = .ok (.if_icmp .ne 6, 3) := by decide +kernel
theorem dX10_joints_44 : decode cX10_joints 44 = .ok (.iinc 3 1, 3) := by decide +kernel
theorem dX10_joints_47 : decode cX10_joints 47 = .ok (.aload_n 0, 1) := by decide +kernel
theorem dX10_joints_48 : decode cX10_joints 48 = .ok (.iload_n 1, 1) := by decide +kernel
theorem dX10_joints_49 : decode cX10_joints 49 = .ok (.iload 5, 2) := by decide +kernel
theorem dX10_joints_51 : decode cX10_joints 51 = .ok (.iload 4, 2) := by decide +kernel
theorem dX10_joints_53 : decode cX10_joints 53 = .ok (.iconst 1, 1) := by decide +kernel
theorem dX10_joints_54 : decode cX10_joints 54 = .ok (.invokevirtual 287, 3) := by decide +kernel
theorem dX10_joints_57 : decode cX10_joints 57 = .ok (.iload_n 2, 1) := by decide +kernel
theorem dX10_joints_58 : decode cX10_joints 58 = .ok (.if_icmp .ne 6, 3) := by decide +kernel
theorem dX10_joints_61 : decode cX10_joints 61 = .ok (.iinc 3 1, 3) := by decide +kernel
theorem dX10_joints_64 : decode cX10_joints 64 = .ok (.iinc 5 1, 3) := by decide +kernel
theorem dX10_joints_67 : decode cX10_joints 67 = .ok (.goto (-48), 3) := by decide +kernel
theorem dX10_joints_70 : decode cX10_joints 70 = .ok (.iinc 4 1, 3) := by decide +kernel
theorem dX10_joints_73 : decode cX10_joints 73 = .ok (.goto (-68), 3) := by decide +kernel
theorem dX10_joints_76 : decode cX10_joints 76 = .ok (.iload_n 3, 1) := by decide +kernel
theorem dX10_joints_77 : decode cX10_joints 77 = .ok (.ireturn, 1) := by decide +kernel
theorem dX10_greatest_0 : decode cX10_greatest 0 = .ok (.iconst 0, 1) := by decide +kernel
theorem dX10_greatest_1 : decode cX10_greatest 1 = .ok (.istore_n 2, 1) := by decide +kernel
theorem dX10_greatest_2 : decode cX10_greatest 2 = .ok (.iconst 0, 1) := by decide +kernel
theorem dX10_greatest_3 : decode cX10_greatest 3 = .ok (.istore_n 3, 1) := by decide +kernel
theorem dX10_greatest_4 : decode cX10_greatest 4 = .ok (.iload_n 3, 1) := by decide +kernel
theorem dX10_greatest_5 : decode cX10_greatest 5 = .ok (.aload_n 0, 1) := by decide +kernel
theorem dX10_greatest_6 : decode cX10_greatest 6 = .ok (.getfield 128, 3) := by decide +kernel
theorem dX10_greatest_9 : decode cX10_greatest 9 = .ok (.iload_n 1, 1) := by decide +kernel
theorem dX10_greatest_10 : decode cX10_greatest 10 = .ok (.iaload, 1) := by decide +kernel
theorem dX10_greatest_11 : decode cX10_greatest 11 = .ok (.if_icmp .ge 56, 3) := by decide +kernel
theorem dX10_greatest_14 : decode cX10_greatest 14 = .ok (.iconst 0, 1) := by decide +kernel
theorem dX10_greatest_15 : decode cX10_greatest 15 = .ok (.istore 4, 2) := by decide +kernel
theorem dX10_greatest_17 : decode cX10_greatest 17 = .ok (.iload 4, 2) := by decide +kernel
theorem dX10_greatest_19 : decode cX10_greatest 19 = .ok (.aload_n 0, 1) := by decide +kernel
theorem dX10_greatest_20 : decode cX10_greatest 20 = .ok (.getfield 125, 3) := by decide +kernel
theorem dX10_greatest_23 : decode cX10_greatest 23 = .ok (.iload_n 1, 1) := by decide +kernel
theorem dX10_greatest_24 : decode cX10_greatest 24 = .ok (.iaload, 1) := by decide +kernel
theorem dX10_greatest_25 : decode cX10_greatest 25 = .ok (.if_icmp .ge 36, 3) := by decide +kernel
theorem dX10_greatest_28 : decode cX10_greatest 28 = .ok (.aload_n 0, 1) := by decide +kernel
theorem dX10_greatest_29 : decode cX10_greatest 29 = .ok (.iload_n 1, 1) := by decide +kernel
theorem dX10_greatest_30 : decode cX10_greatest 30 = .ok (.iload 4, 2) := by decide +kernel
theorem dX10_greatest_32 : decode cX10_greatest 32 = .ok (.iload_n 3, 1) := by decide +kernel
theorem dX10_greatest_33 : decode cX10_greatest 33 = .ok (.invokevirtual 279, 3) := by decide +kernel
theorem dX10_greatest_36 : decode cX10_greatest 36 = .ok (.bipush 15, 2) := by decide +kernel
theorem dX10_greatest_38 : decode cX10_greatest 38 = .ok (.iand, 1) := by decide +kernel
theorem dX10_greatest_39 : decode cX10_greatest 39 = .ok (.iload_n 2, 1) := by decide +kernel
theorem dX10_greatest_40 : decode cX10_greatest 40 = .ok (.if_icmp .le 15, 3) := by decide +kernel
theorem dX10_greatest_43 : decode cX10_greatest 43 = .ok (.aload_n 0, 1) := by decide +kernel
theorem dX10_greatest_44 : decode cX10_greatest 44 = .ok (.iload_n 1, 1) := by decide +kernel
theorem dX10_greatest_45 : decode cX10_greatest 45 = .ok (.iload 4, 2) := by decide +kernel
theorem dX10_greatest_47 : decode cX10_greatest 47 = .ok (.iload_n 3, 1) := by decide +kernel
theorem dX10_greatest_48 : decode cX10_greatest 48 = .ok (.invokevirtual 279, 3) := by decide +kernel
theorem dX10_greatest_51 : decode cX10_greatest 51 = .ok (.bipush 15, 2) := by decide +kernel
theorem dX10_greatest_53 : decode cX10_greatest 53 = .ok (.iand, 1) := by decide +kernel
theorem dX10_greatest_54 : decode cX10_greatest 54 = .ok (.istore_n 2, 1) := by decide +kernel
theorem dX10_greatest_55 : decode cX10_greatest 55 = .ok (.iinc 4 1, 3) := by decide +kernel
theorem dX10_greatest_58 : decode cX10_greatest 58 = .ok (.goto (-41), 3) := by decide +kernel
theorem dX10_greatest_61 : decode cX10_greatest 61 = .ok (.iinc 3 1, 3) := by decide +kernel
theorem dX10_greatest_64 : decode cX10_greatest 64 = .ok (.goto (-60), 3) := by decide +kernel
theorem dX10_greatest_67 : decode cX10_greatest 67 = .ok (.iload_n 2, 1) := by decide +kernel
theorem dX10_greatest_68 : decode cX10_greatest 68 = .ok (.ireturn, 1) := by decide +kernel
theorem dX10_of_0 : decode cX10_of 0 = .ok (.aload_n 0, 1) := by decide +kernel
theorem dX10_of_1 : decode cX10_of 1 = .ok (.iload_n 1, 1) := by decide +kernel
theorem dX10_of_2 : decode cX10_of 2 = .ok (.invokevirtual 276, 3) := by decide +kernel
theorem dX10_of_5 : decode cX10_of 5 = .ok (.ifCond .ne 5, 3) := by decide +kernel
theorem dX10_of_8 : decode cX10_of 8 = .ok (.iconst (-1), 1) := by decide +kernel
theorem dX10_of_9 : decode cX10_of 9 = .ok (.ireturn, 1) := by decide +kernel
theorem dX10_of_10 : decode cX10_of 10 = .ok (.aload_n 0, 1) := by decide +kernel
theorem dX10_of_11 : decode cX10_of 11 = .ok (.getfield 143, 3) := by decide +kernel
theorem dX10_of_14 : decode cX10_of 14 = .ok (.iload_n 1, 1) := by decide +kernel
theorem dX10_of_15 : decode cX10_of 15 = .ok (.iaload, 1) := by decide +kernel
theorem dX10_of_16 : decode cX10_of 16 = .ok (.iconst (-1), 1) := by decide +kernel
theorem dX10_of_17 : decode cX10_of 17 = .ok (.if_icmp .eq 7, 3) := by decide +kernel
theorem dX10_of_20 : decode cX10_of 20 = .ok (.iconst 1, 1) := by decide +kernel
theorem dX10_of_21 : decode cX10_of 21 = .ok (.goto 4, 3) := by decide +kernel
theorem dX10_of_24 : decode cX10_of 24 = .ok (.iconst 0, 1) := by decide +kernel
theorem dX10_of_25 : decode cX10_of 25 = .ok (.istore_n 3, 1) := by decide +kernel
theorem dX10_of_26 : decode cX10_of 26 = .ok (.iload_n 2, 1) := by decide +kernel
theorem dX10_of_27 : decode cX10_of 27 = .ok (.tableswitch 146 0 9 #[53, 60, 67, 73, 80, 87, 94, 101, 116, 131], 53) := by decide +kernel
theorem dX10_of_80 : decode cX10_of 80 = .ok (.aload_n 0, 1) := by decide +kernel
theorem dX10_of_81 : decode cX10_of 81 = .ok (.getfield 125, 3) := by decide +kernel
theorem dX10_of_84 : decode cX10_of 84 = .ok (.iload_n 1, 1) := by decide +kernel
theorem dX10_of_85 : decode cX10_of 85 = .ok (.iaload, 1) := by decide +kernel
theorem dX10_of_86 : decode cX10_of 86 = .ok (.ireturn, 1) := by decide +kernel
theorem dX10_of_87 : decode cX10_of 87 = .ok (.aload_n 0, 1) := by decide +kernel
theorem dX10_of_88 : decode cX10_of 88 = .ok (.getfield 128, 3) := by decide +kernel
theorem dX10_of_91 : decode cX10_of 91 = .ok (.iload_n 1, 1) := by decide +kernel
theorem dX10_of_92 : decode cX10_of 92 = .ok (.iaload, 1) := by decide +kernel
theorem dX10_of_93 : decode cX10_of 93 = .ok (.ireturn, 1) := by decide +kernel
theorem dX10_of_94 : decode cX10_of 94 = .ok (.aload_n 0, 1) := by decide +kernel
theorem dX10_of_95 : decode cX10_of 95 = .ok (.iload_n 1, 1) := by decide +kernel
theorem dX10_of_96 : decode cX10_of 96 = .ok (.invokevirtual 291, 3) := by decide +kernel
theorem dX10_of_99 : decode cX10_of 99 = .ok (.ireturn, 1) := by decide +kernel
theorem dX10_of_100 : decode cX10_of 100 = .ok (.aload_n 0, 1) := by decide +kernel
theorem dX10_of_101 : decode cX10_of 101 = .ok (.iload_n 1, 1) := by decide +kernel
theorem dX10_of_102 : decode cX10_of 102 = .ok (.iconst 2, 1) := by decide +kernel
theorem dX10_of_103 : decode cX10_of 103 = .ok (.invokevirtual 295, 3) := by decide +kernel
theorem dX10_of_106 : decode cX10_of 106 = .ok (.ireturn, 1) := by decide +kernel
theorem dX10_of_107 : decode cX10_of 107 = .ok (.aload_n 0, 1) := by decide +kernel
theorem dX10_of_108 : decode cX10_of 108 = .ok (.iload_n 1, 1) := by decide +kernel
theorem dX10_of_109 : decode cX10_of 109 = .ok (.iconst 1, 1) := by decide +kernel
theorem dX10_of_110 : decode cX10_of 110 = .ok (.invokevirtual 295, 3) := by decide +kernel
theorem dX10_of_113 : decode cX10_of 113 = .ok (.ireturn, 1) := by decide +kernel
theorem dX10_of_114 : decode cX10_of 114 = .ok (.aload_n 0, 1) := by decide +kernel
theorem dX10_of_115 : decode cX10_of 115 = .ok (.iload_n 1, 1) := by decide +kernel
theorem dX10_of_116 : decode cX10_of 116 = .ok (.iconst 0, 1) := by decide +kernel
theorem dX10_of_117 : decode cX10_of 117 = .ok (.invokevirtual 295, 3) := by decide +kernel
theorem dX10_of_120 : decode cX10_of 120 = .ok (.ireturn, 1) := by decide +kernel
theorem dX10_of_121 : decode cX10_of 121 = .ok (.aload_n 0, 1) := by decide +kernel
theorem dX10_of_122 : decode cX10_of 122 = .ok (.getfield 143, 3) := by decide +kernel
theorem dX10_of_125 : decode cX10_of 125 = .ok (.iload_n 1, 1) := by decide +kernel
theorem dX10_of_126 : decode cX10_of 126 = .ok (.iaload, 1) := by decide +kernel
theorem dX10_of_127 : decode cX10_of 127 = .ok (.ireturn, 1) := by decide +kernel
theorem dX10_of_128 : decode cX10_of 128 = .ok (.iload_n 3, 1) := by decide +kernel
theorem dX10_of_129 : decode cX10_of 129 = .ok (.ifCond .eq 12, 3) := by decide +kernel
theorem dX10_of_132 : decode cX10_of 132 = .ok (.aload_n 0, 1) := by decide +kernel
theorem dX10_of_133 : decode cX10_of 133 = .ok (.getfield 146, 3) := by decide +kernel
theorem dX10_of_136 : decode cX10_of 136 = .ok (.iload_n 1, 1) := by decide +kernel
theorem dX10_of_137 : decode cX10_of 137 = .ok (.iaload, 1) := by decide +kernel
theorem dX10_of_138 : decode cX10_of 138 = .ok (.goto 4, 3) := by decide +kernel
theorem dX10_of_141 : decode cX10_of 141 = .ok (.iconst (-1), 1) := by decide +kernel
theorem dX10_of_142 : decode cX10_of 142 = .ok (.ireturn, 1) := by decide +kernel
theorem dX10_of_143 : decode cX10_of 143 = .ok (.iload_n 3, 1) := by decide +kernel
theorem dX10_of_144 : decode cX10_of 144 = .ok (.ifCond .eq 12, 3) := by decide +kernel
theorem dX10_of_147 : decode cX10_of 147 = .ok (.aload_n 0, 1) := by decide +kernel
theorem dX10_of_148 : decode cX10_of 148 = .ok (.getfield 149, 3) := by decide +kernel
theorem dX10_of_151 : decode cX10_of 151 = .ok (.iload_n 1, 1) := by decide +kernel
theorem dX10_of_152 : decode cX10_of 152 = .ok (.iaload, 1) := by decide +kernel
theorem dX10_of_153 : decode cX10_of 153 = .ok (.goto 4, 3) := by decide +kernel
theorem dX10_of_156 : decode cX10_of 156 = .ok (.iconst (-1), 1) := by decide +kernel
theorem dX10_of_157 : decode cX10_of 157 = .ok (.ireturn, 1) := by decide +kernel
theorem dX10_of_158 : decode cX10_of 158 = .ok (.iload_n 3, 1) := by decide +kernel
theorem dX10_of_159 : decode cX10_of 159 = .ok (.ifCond .eq 12, 3) := by decide +kernel
theorem dX10_of_162 : decode cX10_of 162 = .ok (.aload_n 0, 1) := by decide +kernel
theorem dX10_of_163 : decode cX10_of 163 = .ok (.getfield 152, 3) := by decide +kernel
theorem dX10_of_166 : decode cX10_of 166 = .ok (.iload_n 1, 1) := by decide +kernel
theorem dX10_of_167 : decode cX10_of 167 = .ok (.iaload, 1) := by decide +kernel
theorem dX10_of_168 : decode cX10_of 168 = .ok (.goto 4, 3) := by decide +kernel
theorem dX10_of_171 : decode cX10_of 171 = .ok (.iconst (-1), 1) := by decide +kernel
theorem dX10_of_172 : decode cX10_of 172 = .ok (.ireturn, 1) := by decide +kernel
theorem dX10_of_173 : decode cX10_of 173 = .ok (.iconst (-1), 1) := by decide +kernel
theorem dX10_of_174 : decode cX10_of 174 = .ok (.ireturn, 1) := by decide +kernel
theorem dX10_piece_0 : decode cX10_piece 0 = .ok (.aload_n 0, 1) := by decide +kernel
theorem dX10_piece_1 : decode cX10_piece 1 = .ok (.iload_n 1, 1) := by decide +kernel
theorem dX10_piece_2 : decode cX10_piece 2 = .ok (.invokevirtual 276, 3) := by decide +kernel
theorem dX10_piece_5 : decode cX10_piece 5 = .ok (.ifCond .eq 41, 3) := by decide +kernel
theorem dX10_piece_8 : decode cX10_piece 8 = .ok (.iload_n 2, 1) := by decide +kernel
theorem dX10_piece_9 : decode cX10_piece 9 = .ok (.ifCond .lt 37, 3) := by decide +kernel
theorem dX10_piece_12 : decode cX10_piece 12 = .ok (.iload_n 2, 1) := by decide +kernel
theorem dX10_piece_13 : decode cX10_piece 13 = .ok (.aload_n 0, 1) := by decide +kernel
theorem dX10_piece_14 : decode cX10_piece 14 = .ok (.getfield 125, 3) := by decide +kernel
theorem dX10_piece_17 : decode cX10_piece 17 = .ok (.iload_n 1, 1) := by decide +kernel
theorem dX10_piece_18 : decode cX10_piece 18 = .ok (.iaload, 1) := by decide +kernel
theorem dX10_piece_19 : decode cX10_piece 19 = .ok (.if_icmp .ge 27, 3) := by decide +kernel
theorem dX10_piece_22 : decode cX10_piece 22 = .ok (.iload_n 3, 1) := by decide +kernel
theorem dX10_piece_23 : decode cX10_piece 23 = .ok (.ifCond .lt 23, 3) := by decide +kernel
theorem dX10_piece_26 : decode cX10_piece 26 = .ok (.iload_n 3, 1) := by decide +kernel
theorem dX10_piece_27 : decode cX10_piece 27 = .ok (.aload_n 0, 1) := by decide +kernel
theorem dX10_piece_28 : decode cX10_piece 28 = .ok (.getfield 128, 3) := by decide +kernel
theorem dX10_piece_31 : decode cX10_piece 31 = .ok (.iload_n 1, 1) := by decide +kernel
theorem dX10_piece_32 : decode cX10_piece 32 = .ok (.iaload, 1) := by decide +kernel
theorem dX10_piece_33 : decode cX10_piece 33 = .ok (.if_icmp .ge 13, 3) := by decide +kernel
theorem dX10_piece_36 : decode cX10_piece 36 = .ok (.aload_n 0, 1) := by decide +kernel
theorem dX10_piece_37 : decode cX10_piece 37 = .ok (.iload_n 1, 1) := by decide +kernel
theorem dX10_piece_38 : decode cX10_piece 38 = .ok (.iload_n 2, 1) := by decide +kernel
theorem dX10_piece_39 : decode cX10_piece 39 = .ok (.iload_n 3, 1) := by decide +kernel
theorem dX10_piece_40 : decode cX10_piece 40 = .ok (.invokevirtual 279, 3) := by decide +kernel
theorem dX10_piece_43 : decode cX10_piece 43 = .ok (.goto 4, 3) := by decide +kernel
theorem dX10_piece_46 : decode cX10_piece 46 = .ok (.iconst (-1), 1) := by decide +kernel
theorem dX10_piece_47 : decode cX10_piece 47 = .ok (.ireturn, 1) := by decide +kernel
theorem dX10_same_0 : decode cX10_same 0 = .ok (.aload_n 0, 1) := by decide +kernel
theorem dX10_same_1 : decode cX10_same 1 = .ok (.iload_n 1, 1) := by decide +kernel
theorem dX10_same_2 : decode cX10_same 2 = .ok (.invokevirtual 276, 3) := by decide +kernel
theorem dX10_same_5 : decode cX10_same 5 = .ok (.ifCond .eq 20, 3) := by decide +kernel
theorem dX10_same_8 : decode cX10_same 8 = .ok (.aload_n 0, 1) := by decide +kernel
theorem dX10_same_9 : decode cX10_same 9 = .ok (.iload_n 2, 1) := by decide +kernel
theorem dX10_same_10 : decode cX10_same 10 = .ok (.invokevirtual 276, 3) := by decide +kernel
theorem dX10_same_13 : decode cX10_same 13 = .ok (.ifCond .eq 12, 3) := by decide +kernel
theorem dX10_same_16 : decode cX10_same 16 = .ok (.iload_n 3, 1) := by decide +kernel
theorem dX10_same_17 : decode cX10_same 17 = .ok (.ifCond .lt 8, 3) := by decide +kernel
theorem dX10_same_20 : decode cX10_same 20 = .ok (.iload_n 3, 1) := by decide +kernel
theorem dX10_same_21 : decode cX10_same 21 = .ok (.iconst 2, 1) := by decide +kernel
theorem dX10_same_22 : decode cX10_same 22 = .ok (.if_icmp .le 5, 3) := by decide +kernel
theorem dX10_same_25 : decode cX10_same 25 = .ok (.iconst (-1), 1) := by decide +kernel
theorem dX10_same_26 : decode cX10_same 26 = .ok (.ireturn, 1) := by decide +kernel
theorem dX10_same_27 : decode cX10_same 27 = .ok (.aload_n 0, 1) := by decide +kernel
theorem dX10_same_28 : decode cX10_same 28 = .ok (.getfield 125, 3) := by decide +kernel
theorem dX10_same_31 : decode cX10_same 31 = .ok (.iload_n 1, 1) := by decide +kernel
theorem dX10_same_32 : decode cX10_same 32 = .ok (.iaload, 1) := by decide +kernel
theorem dX10_same_33 : decode cX10_same 33 = .ok (.aload_n 0, 1) := by decide +kernel
theorem dX10_same_34 : decode cX10_same 34 = .ok (.getfield 125, 3) := by decide +kernel
theorem dX10_same_37 : decode cX10_same 37 = .ok (.iload_n 2, 1) := by decide +kernel
theorem dX10_same_38 : decode cX10_same 38 = .ok (.iaload, 1) := by decide +kernel
theorem dX10_same_39 : decode cX10_same 39 = .ok (.if_icmp .ne 18, 3) := by decide +kernel
theorem dX10_same_42 : decode cX10_same 42 = .ok (.aload_n 0, 1) := by decide +kernel
theorem dX10_same_43 : decode cX10_same 43 = .ok (.getfield 128, 3) := by decide +kernel
theorem dX10_same_46 : decode cX10_same 46 = .ok (.iload_n 1, 1) := by decide +kernel
theorem dX10_same_47 : decode cX10_same 47 = .ok (.iaload, 1) := by decide +kernel
theorem dX10_same_48 : decode cX10_same 48 = .ok (.aload_n 0, 1) := by decide +kernel
theorem dX10_same_49 : decode cX10_same 49 = .ok (.getfield 128, 3) := by decide +kernel
theorem dX10_same_52 : decode cX10_same 52 = .ok (.iload_n 2, 1) := by decide +kernel
theorem dX10_same_53 : decode cX10_same 53 = .ok (.iaload, 1) := by decide +kernel
theorem dX10_same_54 : decode cX10_same 54 = .ok (.if_icmp .eq 5, 3) := by decide +kernel
theorem dX10_same_57 : decode cX10_same 57 = .ok (.iconst 0, 1) := by decide +kernel
theorem dX10_same_58 : decode cX10_same 58 = .ok (.ireturn, 1) := by decide +kernel
theorem dX10_same_59 : decode cX10_same 59 = .ok (.aload_n 0, 1) := by decide +kernel
theorem dX10_same_60 : decode cX10_same 60 = .ok (.aload_n 0, 1) := by decide +kernel
theorem dX10_same_61 : decode cX10_same 61 = .ok (.getfield 125, 3) := by decide +kernel
theorem dX10_same_64 : decode cX10_same 64 = .ok (.iload_n 2, 1) := by decide +kernel
theorem dX10_same_65 : decode cX10_same 65 = .ok (.iaload, 1) := by decide +kernel
theorem dX10_same_66 : decode cX10_same 66 = .ok (.putfield 236, 3) := by decide +kernel
theorem dX10_same_69 : decode cX10_same 69 = .ok (.aload_n 0, 1) := by decide +kernel
theorem dX10_same_70 : decode cX10_same 70 = .ok (.aload_n 0, 1) := by decide +kernel
theorem dX10_same_71 : decode cX10_same 71 = .ok (.getfield 128, 3) := by decide +kernel
theorem dX10_same_74 : decode cX10_same 74 = .ok (.iload_n 2, 1) := by decide +kernel
theorem dX10_same_75 : decode cX10_same 75 = .ok (.iaload, 1) := by decide +kernel
theorem dX10_same_76 : decode cX10_same 76 = .ok (.putfield 233, 3) := by decide +kernel
theorem dX10_same_79 : decode cX10_same 79 = .ok (.iconst 0, 1) := by decide +kernel
theorem dX10_same_80 : decode cX10_same 80 = .ok (.istore 4, 2) := by decide +kernel
theorem dX10_same_82 : decode cX10_same 82 = .ok (.iload 4, 2) := by decide +kernel
theorem dX10_same_84 : decode cX10_same 84 = .ok (.bipush 64, 2) := by decide +kernel
theorem dX10_same_86 : decode cX10_same 86 = .ok (.if_icmp .ge 28, 3) := by decide +kernel
theorem dX10_same_89 : decode cX10_same 89 = .ok (.aload_n 0, 1) := by decide +kernel
theorem dX10_same_90 : decode cX10_same 90 = .ok (.getfield 86, 3) := by decide +kernel
theorem dX10_same_93 : decode cX10_same 93 = .ok (.iload 4, 2) := by decide +kernel
theorem dX10_same_95 : decode cX10_same 95 = .ok (.aload_n 0, 1) := by decide +kernel
theorem dX10_same_96 : decode cX10_same 96 = .ok (.getfield 131, 3) := by decide +kernel
theorem dX10_same_99 : decode cX10_same 99 = .ok (.bipush 64, 2) := by decide +kernel
theorem dX10_same_101 : decode cX10_same 101 = .ok (.iload_n 2, 1) := by decide +kernel
theorem dX10_same_102 : decode cX10_same 102 = .ok (.imul, 1) := by decide +kernel
theorem dX10_same_103 : decode cX10_same 103 = .ok (.iload 4, 2) := by decide +kernel
theorem dX10_same_105 : decode cX10_same 105 = .ok (.iadd, 1) := by decide +kernel
theorem dX10_same_106 : decode cX10_same 106 = .ok (.iaload, 1) := by decide +kernel
theorem dX10_same_107 : decode cX10_same 107 = .ok (.iastore, 1) := by decide +kernel
theorem dX10_same_108 : decode cX10_same 108 = .ok (.iinc 4 1, 3) := by decide +kernel
theorem dX10_same_111 : decode cX10_same 111 = .ok (.goto (-29), 3) := by decide +kernel
theorem dX10_same_114 : decode cX10_same 114 = .ok (.iload_n 3, 1) := by decide +kernel
theorem dX10_same_115 : decode cX10_same 115 = .ok (.ifCond .le 18, 3) := by decide +kernel
theorem dX10_same_118 : decode cX10_same 118 = .ok (.aload_n 0, 1) := by decide +kernel
theorem dX10_same_119 : decode cX10_same 119 = .ok (.iconst 1, 1) := by decide +kernel
theorem dX10_same_120 : decode cX10_same 120 = .ok (.iload_n 3, 1) := by decide +kernel
theorem dX10_same_121 : decode cX10_same 121 = .ok (.iconst 2, 1) := by decide +kernel
theorem dX10_same_122 : decode cX10_same 122 = .ok (.if_icmp .ne 7, 3) := by decide +kernel
theorem dX10_same_125 : decode cX10_same 125 = .ok (.iconst 1, 1) := by decide +kernel
theorem dX10_same_126 : decode cX10_same 126 = .ok (.goto 4, 3) := by decide +kernel
theorem dX10_same_129 : decode cX10_same 129 = .ok (.iconst 0, 1) := by decide +kernel
theorem dX10_same_130 : decode cX10_same 130 = .ok (.invokevirtual 242, 3) := by decide +kernel
theorem dX10_same_133 : decode cX10_same 133 = .ok (.iconst 0, 1) := by decide +kernel
theorem dX10_same_134 : decode cX10_same 134 = .ok (.istore 4, 2) := by decide +kernel
theorem dX10_same_136 : decode cX10_same 136 = .ok (.iload 4, 2) := by decide +kernel
theorem dX10_same_138 : decode cX10_same 138 = .ok (.aload_n 0, 1) := by decide +kernel
theorem dX10_same_139 : decode cX10_same 139 = .ok (.getfield 233, 3) := by decide +kernel
theorem dX10_same_142 : decode cX10_same 142 = .ok (.if_icmp .ge 54, 3) := by decide +kernel
theorem dX10_same_145 : decode cX10_same 145 = .ok (.iconst 0, 1) := by decide +kernel
theorem dX10_same_146 : decode cX10_same 146 = .ok (.istore 5, 2) := by decide +kernel
theorem dX10_same_148 : decode cX10_same 148 = .ok (.iload 5, 2) := by decide +kernel
theorem dX10_same_150 : decode cX10_same 150 = .ok (.aload_n 0, 1) := by decide +kernel
theorem dX10_same_151 : decode cX10_same 151 = .ok (.getfield 236, 3) := by decide +kernel
theorem dX10_same_154 : decode cX10_same 154 = .ok (.if_icmp .ge 36, 3) := by decide +kernel
theorem dX10_same_157 : decode cX10_same 157 = .ok (.aload_n 0, 1) := by decide +kernel
theorem dX10_same_158 : decode cX10_same 158 = .ok (.getfield 86, 3) := by decide +kernel
theorem dX10_same_161 : decode cX10_same 161 = .ok (.bipush 8, 2) := by decide +kernel
theorem dX10_same_163 : decode cX10_same 163 = .ok (.iload 4, 2) := by decide +kernel
theorem dX10_same_165 : decode cX10_same 165 = .ok (.imul, 1) := by decide +kernel
theorem dX10_same_166 : decode cX10_same 166 = .ok (.iload 5, 2) := by decide +kernel
theorem dX10_same_168 : decode cX10_same 168 = .ok (.iadd, 1) := by decide +kernel
theorem dX10_same_169 : decode cX10_same 169 = .ok (.iaload, 1) := by decide +kernel
theorem dX10_same_170 : decode cX10_same 170 = .ok (.aload_n 0, 1) := by decide +kernel
theorem dX10_same_171 : decode cX10_same 171 = .ok (.iload_n 1, 1) := by decide +kernel
theorem dX10_same_172 : decode cX10_same 172 = .ok (.iload 5, 2) := by decide +kernel
theorem dX10_same_174 : decode cX10_same 174 = .ok (.iload 4, 2) := by decide +kernel
theorem dX10_same_176 : decode cX10_same 176 = .ok (.invokevirtual 279, 3) := by decide +kernel
theorem dX10_same_179 : decode cX10_same 179 = .ok (.if_icmp .eq 5, 3) := by decide +kernel
theorem dX10_same_182 : decode cX10_same 182 = .ok (.iconst 0, 1) := by decide +kernel
theorem dX10_same_183 : decode cX10_same 183 = .ok (.ireturn, 1) := by decide +kernel
theorem dX10_same_184 : decode cX10_same 184 = .ok (.iinc 5 1, 3) := by decide +kernel
theorem dX10_same_187 : decode cX10_same 187 = .ok (.goto (-39), 3) := by decide +kernel
theorem dX10_same_190 : decode cX10_same 190 = .ok (.iinc 4 1, 3) := by decide +kernel
theorem dX10_same_193 : decode cX10_same 193 = .ok (.goto (-57), 3) := by decide +kernel
theorem dX10_same_196 : decode cX10_same 196 = .ok (.iconst 1, 1) := by decide +kernel
theorem dX10_same_197 : decode cX10_same 197 = .ok (.ireturn, 1) := by decide +kernel
theorem dX10_counts_0 : decode cX10_counts 0 = .ok (.iconst 0, 1) := by decide +kernel
theorem dX10_counts_1 : decode cX10_counts 1 = .ok (.istore_n 2, 1) := by decide +kernel
theorem dX10_counts_2 : decode cX10_counts 2 = .ok (.iload_n 2, 1) := by decide +kernel
theorem dX10_counts_3 : decode cX10_counts 3 = .ok (.bipush 10, 2) := by decide +kernel
theorem dX10_counts_5 : decode cX10_counts 5 = .ok (.if_icmp .ge 16, 3) := by decide +kernel
theorem dX10_counts_8 : decode cX10_counts 8 = .ok (.aload_n 0, 1) := by decide +kernel
theorem dX10_counts_9 : decode cX10_counts 9 = .ok (.getfield 155, 3) := by decide +kernel
theorem dX10_counts_12 : decode cX10_counts 12 = .ok (.iload_n 2, 1) := by decide +kernel
theorem dX10_counts_13 : decode cX10_counts 13 = .ok (.iconst 0, 1) := by decide +kernel
theorem dX10_counts_14 : decode cX10_counts 14 = .ok (.iastore, 1) := by decide +kernel
theorem dX10_counts_15 : decode cX10_counts 15 = .ok (.iinc 2 1, 3) := by decide +kernel
theorem dX10_counts_18 : decode cX10_counts 18 = .ok (.goto (-16), 3) := by decide +kernel
theorem dX10_counts_21 : decode cX10_counts 21 = .ok (.iconst 0, 1) := by decide +kernel
theorem dX10_counts_22 : decode cX10_counts 22 = .ok (.istore_n 2, 1) := by decide +kernel
theorem dX10_counts_23 : decode cX10_counts 23 = .ok (.iload_n 2, 1) := by decide +kernel
theorem dX10_counts_24 : decode cX10_counts 24 = .ok (.aload_n 0, 1) := by decide +kernel
theorem dX10_counts_25 : decode cX10_counts 25 = .ok (.getfield 128, 3) := by decide +kernel
theorem dX10_counts_28 : decode cX10_counts 28 = .ok (.iload_n 1, 1) := by decide +kernel
theorem dX10_counts_29 : decode cX10_counts 29 = .ok (.iaload, 1) := by decide +kernel
theorem dX10_counts_30 : decode cX10_counts 30 = .ok (.if_icmp .ge 46, 3) := by decide +kernel
theorem dX10_counts_33 : decode cX10_counts 33 = .ok (.iconst 0, 1) := by decide +kernel
theorem dX10_counts_34 : decode cX10_counts 34 = .ok (.istore_n 3, 1) := by decide +kernel
theorem dX10_counts_35 : decode cX10_counts 35 = .ok (.iload_n 3, 1) := by decide +kernel
theorem dX10_counts_36 : decode cX10_counts 36 = .ok (.aload_n 0, 1) := by decide +kernel
theorem dX10_counts_37 : decode cX10_counts 37 = .ok (.getfield 125, 3) := by decide +kernel
theorem dX10_counts_40 : decode cX10_counts 40 = .ok (.iload_n 1, 1) := by decide +kernel
theorem dX10_counts_41 : decode cX10_counts 41 = .ok (.iaload, 1) := by decide +kernel
theorem dX10_counts_42 : decode cX10_counts 42 = .ok (.if_icmp .ge 28, 3) := by decide +kernel
theorem dX10_counts_45 : decode cX10_counts 45 = .ok (.aload_n 0, 1) := by decide +kernel
theorem dX10_counts_46 : decode cX10_counts 46 = .ok (.getfield 155, 3) := by decide +kernel
theorem dX10_counts_49 : decode cX10_counts 49 = .ok (.aload_n 0, 1) := by decide +kernel
theorem dX10_counts_50 : decode cX10_counts 50 = .ok (.iload_n 1, 1) := by decide +kernel
theorem dX10_counts_51 : decode cX10_counts 51 = .ok (.iload_n 3, 1) := by decide +kernel
theorem dX10_counts_52 : decode cX10_counts 52 = .ok (.iload_n 2, 1) := by decide +kernel
theorem dX10_counts_53 : decode cX10_counts 53 = .ok (.invokevirtual 279, 3) := by decide +kernel
theorem dX10_counts_56 : decode cX10_counts 56 = .ok (.bipush 15, 2) := by decide +kernel
theorem dX10_counts_58 : decode cX10_counts 58 = .ok (.iand, 1) := by decide +kernel
theorem dX10_counts_59 : decode cX10_counts 59 = .ok (.dup2, 1) := by decide +kernel
theorem dX10_counts_60 : decode cX10_counts 60 = .ok (.iaload, 1) := by decide +kernel
theorem dX10_counts_61 : decode cX10_counts 61 = .ok (.iconst 1, 1) := by decide +kernel
theorem dX10_counts_62 : decode cX10_counts 62 = .ok (.iadd, 1) := by decide +kernel
theorem dX10_counts_63 : decode cX10_counts 63 = .ok (.iastore, 1) := by decide +kernel
theorem dX10_counts_64 : decode cX10_counts 64 = .ok (.iinc 3 1, 3) := by decide +kernel
theorem dX10_counts_67 : decode cX10_counts 67 = .ok (.goto (-32), 3) := by decide +kernel
theorem dX10_counts_70 : decode cX10_counts 70 = .ok (.iinc 2 1, 3) := by decide +kernel
theorem dX10_counts_73 : decode cX10_counts 73 = .ok (.goto (-50), 3) := by decide +kernel
theorem dX10_counts_76 : decode cX10_counts 76 = .ok (.return_, 1) := by decide +kernel
theorem dX10_hasTones_0 : decode cX10_hasTones 0 = .ok (.iconst 0, 1) := by decide +kernel
theorem dX10_hasTones_1 : decode cX10_hasTones 1 = .ok (.istore 4, 2) := by decide +kernel
theorem dX10_hasTones_3 : decode cX10_hasTones 3 = .ok (.iconst 0, 1) := by decide +kernel
theorem dX10_hasTones_4 : decode cX10_hasTones 4 = .ok (.istore 5, 2) := by decide +kernel
theorem dX10_hasTones_6 : decode cX10_hasTones 6 = .ok (.iconst 0, 1) := by decide +kernel
theorem dX10_hasTones_7 : decode cX10_hasTones 7 = .ok (.istore 6, 2) := by decide +kernel
theorem dX10_hasTones_9 : decode cX10_hasTones 9 = .ok (.iconst 0, 1) := by decide +kernel
theorem dX10_hasTones_10 : decode cX10_hasTones 10 = .ok (.istore 7, 2) := by decide +kernel
theorem dX10_hasTones_12 : decode cX10_hasTones 12 = .ok (.iload 7, 2) := by decide +kernel
theorem dX10_hasTones_14 : decode cX10_hasTones 14 = .ok (.bipush 10, 2) := by decide +kernel
theorem dX10_hasTones_16 : decode cX10_hasTones 16 = .ok (.if_icmp .ge 68, 3) := by decide +kernel
theorem dX10_hasTones_19 : decode cX10_hasTones 19 = .ok (.aload_n 0, 1) := by decide +kernel
theorem dX10_hasTones_20 : decode cX10_hasTones 20 = .ok (.getfield 155, 3) := by decide +kernel
theorem dX10_hasTones_23 : decode cX10_hasTones 23 = .ok (.iload 7, 2) := by decide +kernel
theorem dX10_hasTones_25 : decode cX10_hasTones 25 = .ok (.iaload, 1) := by decide +kernel
theorem dX10_hasTones_26 : decode cX10_hasTones 26 = .ok (.ifCond .ne 6, 3) := by decide +kernel
theorem dX10_hasTones_29 : decode cX10_hasTones 29 = .ok (.goto 49, 3) := by decide +kernel
theorem dX10_hasTones_32 : decode cX10_hasTones 32 = .ok (.aload_n 0, 1) := by decide +kernel
theorem dX10_hasTones_33 : decode cX10_hasTones 33 = .ok (.iload_n 2, 1) := by decide +kernel
theorem dX10_hasTones_34 : decode cX10_hasTones 34 = .ok (.iload_n 3, 1) := by decide +kernel
theorem dX10_hasTones_35 : decode cX10_hasTones 35 = .ok (.iload 7, 2) := by decide +kernel
theorem dX10_hasTones_37 : decode cX10_hasTones 37 = .ok (.iadd, 1) := by decide +kernel
theorem dX10_hasTones_38 : decode cX10_hasTones 38 = .ok (.invokevirtual 194, 3) := by decide +kernel
theorem dX10_hasTones_41 : decode cX10_hasTones 41 = .ok (.istore 8, 2) := by decide +kernel
theorem dX10_hasTones_43 : decode cX10_hasTones 43 = .ok (.iload 6, 2) := by decide +kernel
theorem dX10_hasTones_45 : decode cX10_hasTones 45 = .ok (.ifCond .eq 10, 3) := by decide +kernel
theorem dX10_hasTones_48 : decode cX10_hasTones 48 = .ok (.iload 8, 2) := by decide +kernel
theorem dX10_hasTones_50 : decode cX10_hasTones 50 = .ok (.iload 4, 2) := by decide +kernel
theorem dX10_hasTones_52 : decode cX10_hasTones 52 = .ok (.if_icmp .ge 7, 3) := by decide +kernel
theorem dX10_hasTones_55 : decode cX10_hasTones 55 = .ok (.iload 8, 2) := by decide +kernel
theorem dX10_hasTones_57 : decode cX10_hasTones 57 = .ok (.istore 4, 2) := by decide +kernel
theorem dX10_hasTones_59 : decode cX10_hasTones 59 = .ok (.iload 6, 2) := by decide +kernel
theorem dX10_hasTones_61 : decode cX10_hasTones 61 = .ok (.ifCond .eq 10, 3) := by decide +kernel
theorem dX10_hasTones_64 : decode cX10_hasTones 64 = .ok (.iload 8, 2) := by decide +kernel
theorem dX10_hasTones_66 : decode cX10_hasTones 66 = .ok (.iload 5, 2) := by decide +kernel
theorem dX10_hasTones_68 : decode cX10_hasTones 68 = .ok (.if_icmp .le 7, 3) := by decide +kernel
theorem dX10_hasTones_71 : decode cX10_hasTones 71 = .ok (.iload 8, 2) := by decide +kernel
theorem dX10_hasTones_73 : decode cX10_hasTones 73 = .ok (.istore 5, 2) := by decide +kernel
theorem dX10_hasTones_75 : decode cX10_hasTones 75 = .ok (.iconst 1, 1) := by decide +kernel
theorem dX10_hasTones_76 : decode cX10_hasTones 76 = .ok (.istore 6, 2) := by decide +kernel
theorem dX10_hasTones_78 : decode cX10_hasTones 78 = .ok (.iinc 7 1, 3) := by decide +kernel
theorem dX10_hasTones_81 : decode cX10_hasTones 81 = .ok (.goto (-69), 3) := by decide +kernel
theorem dX10_hasTones_84 : decode cX10_hasTones 84 = .ok (.iload 5, 2) := by decide +kernel
theorem dX10_hasTones_86 : decode cX10_hasTones 86 = .ok (.iload 4, 2) := by decide +kernel
theorem dX10_hasTones_88 : decode cX10_hasTones 88 = .ok (.isub, 1) := by decide +kernel
theorem dX10_hasTones_89 : decode cX10_hasTones 89 = .ok (.aload_n 0, 1) := by decide +kernel
theorem dX10_hasTones_90 : decode cX10_hasTones 90 = .ok (.getfield 140, 3) := by decide +kernel
theorem dX10_hasTones_93 : decode cX10_hasTones 93 = .ok (.iload_n 1, 1) := by decide +kernel
theorem dX10_hasTones_94 : decode cX10_hasTones 94 = .ok (.iaload, 1) := by decide +kernel
theorem dX10_hasTones_95 : decode cX10_hasTones 95 = .ok (.if_icmp .gt 7, 3) := by decide +kernel
theorem dX10_hasTones_98 : decode cX10_hasTones 98 = .ok (.iconst 1, 1) := by decide +kernel
theorem dX10_hasTones_99 : decode cX10_hasTones 99 = .ok (.goto 4, 3) := by decide +kernel
theorem dX10_hasTones_102 : decode cX10_hasTones 102 = .ok (.iconst 0, 1) := by decide +kernel
theorem dX10_hasTones_103 : decode cX10_hasTones 103 = .ok (.ireturn, 1) := by decide +kernel
theorem dX10_fits_0 : decode cX10_fits 0 = .ok (.iconst 0, 1) := by decide +kernel
theorem dX10_fits_1 : decode cX10_fits 1 = .ok (.istore 6, 2) := by decide +kernel
theorem dX10_fits_3 : decode cX10_fits 3 = .ok (.iload 6, 2) := by decide +kernel
theorem dX10_fits_5 : decode cX10_fits 5 = .ok (.bipush 10, 2) := by decide +kernel
theorem dX10_fits_7 : decode cX10_fits 7 = .ok (.if_icmp .ge 115, 3) := by decide +kernel
theorem dX10_fits_10 : decode cX10_fits 10 = .ok (.aload_n 0, 1) := by decide +kernel
theorem dX10_fits_11 : decode cX10_fits 11 = .ok (.getfield 155, 3) := by decide +kernel
theorem dX10_fits_14 : decode cX10_fits 14 = .ok (.iload 6, 2) := by decide +kernel
theorem dX10_fits_16 : decode cX10_fits 16 = .ok (.iaload, 1) := by decide +kernel
theorem dX10_fits_17 : decode cX10_fits 17 = .ok (.ifCond .ne 6, 3) := by decide +kernel
theorem dX10_fits_20 : decode cX10_fits 20 = .ok (.goto 96, 3) := by decide +kernel
theorem dX10_fits_23 : decode cX10_fits 23 = .ok (.aload_n 0, 1) := by decide +kernel
theorem dX10_fits_24 : decode cX10_fits 24 = .ok (.getfield 155, 3) := by decide +kernel
theorem dX10_fits_27 : decode cX10_fits 27 = .ok (.iload 6, 2) := by decide +kernel
theorem dX10_fits_29 : decode cX10_fits 29 = .ok (.iaload, 1) := by decide +kernel
theorem dX10_fits_30 : decode cX10_fits 30 = .ok (.aload_n 0, 1) := by decide +kernel
theorem dX10_fits_31 : decode cX10_fits 31 = .ok (.getfield 137, 3) := by decide +kernel
theorem dX10_fits_34 : decode cX10_fits 34 = .ok (.iload_n 1, 1) := by decide +kernel
theorem dX10_fits_35 : decode cX10_fits 35 = .ok (.iaload, 1) := by decide +kernel
theorem dX10_fits_36 : decode cX10_fits 36 = .ok (.imul, 1) := by decide +kernel
theorem dX10_fits_37 : decode cX10_fits 37 = .ok (.istore 7, 2) := by decide +kernel
theorem dX10_fits_39 : decode cX10_fits 39 = .ok (.aload_n 0, 1) := by decide +kernel
theorem dX10_fits_40 : decode cX10_fits 40 = .ok (.iload_n 2, 1) := by decide +kernel
theorem dX10_fits_41 : decode cX10_fits 41 = .ok (.iload_n 3, 1) := by decide +kernel
theorem dX10_fits_42 : decode cX10_fits 42 = .ok (.iload 6, 2) := by decide +kernel
theorem dX10_fits_44 : decode cX10_fits 44 = .ok (.iadd, 1) := by decide +kernel
theorem dX10_fits_45 : decode cX10_fits 45 = .ok (.iload 5, 2) := by decide +kernel
theorem dX10_fits_47 : decode cX10_fits 47 = .ok (.i2l, 1) := by decide +kernel
theorem dX10_fits_48 : decode cX10_fits 48 = .ok (.iload 4, 2) := by decide +kernel
theorem dX10_fits_50 : decode cX10_fits 50 = .ok (.i2l, 1) := by decide +kernel
theorem dX10_fits_51 : decode cX10_fits 51 = .ok (.aload_n 0, 1) := by decide +kernel
theorem dX10_fits_52 : decode cX10_fits 52 = .ok (.getfield 134, 3) := by decide +kernel
theorem dX10_fits_55 : decode cX10_fits 55 = .ok (.iload_n 1, 1) := by decide +kernel
theorem dX10_fits_56 : decode cX10_fits 56 = .ok (.iaload, 1) := by decide +kernel
theorem dX10_fits_57 : decode cX10_fits 57 = .ok (.iload 7, 2) := by decide +kernel
theorem dX10_fits_59 : decode cX10_fits 59 = .ok (.invokevirtual 201, 3) := by decide +kernel
theorem dX10_fits_62 : decode cX10_fits 62 = .ok (.ifCond .eq 52, 3) := by decide +kernel
theorem dX10_fits_65 : decode cX10_fits 65 = .ok (.aload_n 0, 1) := by decide +kernel
theorem dX10_fits_66 : decode cX10_fits 66 = .ok (.iload_n 2, 1) := by decide +kernel
theorem dX10_fits_67 : decode cX10_fits 67 = .ok (.iload_n 3, 1) := by decide +kernel
theorem dX10_fits_68 : decode cX10_fits 68 = .ok (.iload 6, 2) := by decide +kernel
theorem dX10_fits_70 : decode cX10_fits 70 = .ok (.iadd, 1) := by decide +kernel
theorem dX10_fits_71 : decode cX10_fits 71 = .ok (.iload 5, 2) := by decide +kernel
theorem dX10_fits_73 : decode cX10_fits 73 = .ok (.iload 4, 2) := by decide +kernel
theorem dX10_fits_75 : decode cX10_fits 75 = .ok (.aload_n 0, 1) := by decide +kernel
theorem dX10_fits_76 : decode cX10_fits 76 = .ok (.getfield 134, 3) := by decide +kernel
theorem dX10_fits_79 : decode cX10_fits 79 = .ok (.iload_n 1, 1) := by decide +kernel
theorem dX10_fits_80 : decode cX10_fits 80 = .ok (.iaload, 1) := by decide +kernel
theorem dX10_fits_81 : decode cX10_fits 81 = .ok (.iload 7, 2) := by decide +kernel
theorem dX10_fits_83 : decode cX10_fits 83 = .ok (.invokevirtual 205, 3) := by decide +kernel
theorem dX10_fits_86 : decode cX10_fits 86 = .ok (.iconst (-1), 1) := by decide +kernel
theorem dX10_fits_87 : decode cX10_fits 87 = .ok (.if_icmp .ne 27, 3) := by decide +kernel
theorem dX10_fits_90 : decode cX10_fits 90 = .ok (.aload_n 0, 1) := by decide +kernel
theorem dX10_fits_91 : decode cX10_fits 91 = .ok (.iload_n 2, 1) := by decide +kernel
theorem dX10_fits_92 : decode cX10_fits 92 = .ok (.iload_n 3, 1) := by decide +kernel
theorem dX10_fits_93 : decode cX10_fits 93 = .ok (.iload 6, 2) := by decide +kernel
theorem dX10_fits_95 : decode cX10_fits 95 = .ok (.iadd, 1) := by decide +kernel
theorem dX10_fits_96 : decode cX10_fits 96 = .ok (.iload 5, 2) := by decide +kernel
theorem dX10_fits_98 : decode cX10_fits 98 = .ok (.iload 4, 2) := by decide +kernel
theorem dX10_fits_100 : decode cX10_fits 100 = .ok (.aload_n 0, 1) := by decide +kernel
theorem dX10_fits_101 : decode cX10_fits 101 = .ok (.getfield 134, 3) := by decide +kernel
theorem dX10_fits_104 : decode cX10_fits 104 = .ok (.iload_n 1, 1) := by decide +kernel
theorem dX10_fits_105 : decode cX10_fits 105 = .ok (.iaload, 1) := by decide +kernel
theorem dX10_fits_106 : decode cX10_fits 106 = .ok (.iload 7, 2) := by decide +kernel
theorem dX10_fits_108 : decode cX10_fits 108 = .ok (.invokevirtual 298, 3) := by decide +kernel
theorem dX10_fits_111 : decode cX10_fits 111 = .ok (.ifCond .eq 5, 3) := by decide +kernel
theorem dX10_fits_114 : decode cX10_fits 114 = .ok (.iconst 0, 1) := by decide +kernel
theorem dX10_fits_115 : decode cX10_fits 115 = .ok (.ireturn, 1) := by decide +kernel
theorem dX10_fits_116 : decode cX10_fits 116 = .ok (.iinc 6 1, 3) := by decide +kernel
theorem dX10_fits_119 : decode cX10_fits 119 = .ok (.goto (-116), 3) := by decide +kernel
theorem dX10_fits_122 : decode cX10_fits 122 = .ok (.iconst 1, 1) := by decide +kernel
theorem dX10_fits_123 : decode cX10_fits 123 = .ok (.ireturn, 1) := by decide +kernel
theorem dX10_why_0 : decode cX10_why 0 = .ok (.aload_n 0, 1) := by decide +kernel
theorem dX10_why_1 : decode cX10_why 1 = .ok (.iload_n 1, 1) := by decide +kernel
theorem dX10_why_2 : decode cX10_why 2 = .ok (.invokevirtual 276, 3) := by decide +kernel
theorem dX10_why_5 : decode cX10_why 5 = .ok (.ifCond .eq 11, 3) := by decide +kernel
theorem dX10_why_8 : decode cX10_why 8 = .ok (.aload_n 0, 1) := by decide +kernel
theorem dX10_why_9 : decode cX10_why 9 = .ok (.iload_n 2, 1) := by decide +kernel
theorem dX10_why_10 : decode cX10_why 10 = .ok (.invokevirtual 167, 3) := by decide +kernel
theorem dX10_why_13 : decode cX10_why 13 = .ok (.ifCond .ne 5, 3) := by decide +kernel
theorem dX10_why_16 : decode cX10_why 16 = .ok (.iconst (-1), 1) := by decide +kernel
theorem dX10_why_17 : decode cX10_why 17 = .ok (.ireturn, 1) := by decide +kernel
theorem dX10_why_18 : decode cX10_why 18 = .ok (.iconst 0, 1) := by decide +kernel
theorem dX10_why_19 : decode cX10_why 19 = .ok (.istore 6, 2) := by decide +kernel
theorem dX10_why_21 : decode cX10_why 21 = .ok (.iload 6, 2) := by decide +kernel
theorem dX10_why_23 : decode cX10_why 23 = .ok (.bipush 10, 2) := by decide +kernel
theorem dX10_why_25 : decode cX10_why 25 = .ok (.if_icmp .ge 17, 3) := by decide +kernel
theorem dX10_why_28 : decode cX10_why 28 = .ok (.aload_n 0, 1) := by decide +kernel
theorem dX10_why_29 : decode cX10_why 29 = .ok (.getfield 155, 3) := by decide +kernel
theorem dX10_why_32 : decode cX10_why 32 = .ok (.iload 6, 2) := by decide +kernel
theorem dX10_why_34 : decode cX10_why 34 = .ok (.iconst 0, 1) := by decide +kernel
theorem dX10_why_35 : decode cX10_why 35 = .ok (.iastore, 1) := by decide +kernel
theorem dX10_why_36 : decode cX10_why 36 = .ok (.iinc 6 1, 3) := by decide +kernel
theorem dX10_why_39 : decode cX10_why 39 = .ok (.goto (-18), 3) := by decide +kernel
theorem dX10_why_42 : decode cX10_why 42 = .ok (.iconst 0, 1) := by decide +kernel
theorem dX10_why_43 : decode cX10_why 43 = .ok (.istore 6, 2) := by decide +kernel
theorem dX10_why_45 : decode cX10_why 45 = .ok (.iload 6, 2) := by decide +kernel
theorem dX10_why_47 : decode cX10_why 47 = .ok (.aload_n 0, 1) := by decide +kernel
theorem dX10_why_48 : decode cX10_why 48 = .ok (.getfield 128, 3) := by decide +kernel
theorem dX10_why_51 : decode cX10_why 51 = .ok (.iload_n 1, 1) := by decide +kernel
theorem dX10_why_52 : decode cX10_why 52 = .ok (.iaload, 1) := by decide +kernel
theorem dX10_why_53 : decode cX10_why 53 = .ok (.if_icmp .ge 197, 3) := by decide +kernel
theorem dX10_why_56 : decode cX10_why 56 = .ok (.iconst 0, 1) := by decide +kernel
theorem dX10_why_57 : decode cX10_why 57 = .ok (.istore 7, 2) := by decide +kernel
theorem dX10_why_59 : decode cX10_why 59 = .ok (.iload 7, 2) := by decide +kernel
theorem dX10_why_61 : decode cX10_why 61 = .ok (.aload_n 0, 1) := by decide +kernel
theorem dX10_why_62 : decode cX10_why 62 = .ok (.getfield 125, 3) := by decide +kernel
theorem dX10_why_65 : decode cX10_why 65 = .ok (.iload_n 1, 1) := by decide +kernel
theorem dX10_why_66 : decode cX10_why 66 = .ok (.iaload, 1) := by decide +kernel
theorem dX10_why_67 : decode cX10_why 67 = .ok (.if_icmp .ge 177, 3) := by decide +kernel
theorem dX10_why_70 : decode cX10_why 70 = .ok (.aload_n 0, 1) := by decide +kernel
theorem dX10_why_71 : decode cX10_why 71 = .ok (.iload_n 1, 1) := by decide +kernel
theorem dX10_why_72 : decode cX10_why 72 = .ok (.iload 7, 2) := by decide +kernel
theorem dX10_why_74 : decode cX10_why 74 = .ok (.iload 6, 2) := by decide +kernel
theorem dX10_why_76 : decode cX10_why 76 = .ok (.invokevirtual 279, 3) := by decide +kernel
theorem dX10_why_79 : decode cX10_why 79 = .ok (.bipush 15, 2) := by decide +kernel
theorem dX10_why_81 : decode cX10_why 81 = .ok (.iand, 1) := by decide +kernel
theorem dX10_why_82 : decode cX10_why 82 = .ok (.istore 8, 2) := by decide +kernel
theorem dX10_why_84 : decode cX10_why 84 = .ok (.iload_n 3, 1) := by decide +kernel
theorem dX10_why_85 : decode cX10_why 85 = .ok (.i2l, 1) := by decide +kernel
theorem dX10_why_86 : decode cX10_why 86 = .ok (.iload 8, 2) := by decide +kernel
theorem dX10_why_88 : decode cX10_why 88 = .ok (.i2l, 1) := by decide +kernel
theorem dX10_why_89 : decode cX10_why 89 = .ok (.ladd, 1) := by decide +kernel
theorem dX10_why_90 : decode cX10_why 90 = .ok (.lstore 9, 2) := by decide +kernel
theorem dX10_why_92 : decode cX10_why 92 = .ok (.iload 4, 2) := by decide +kernel
theorem dX10_why_94 : decode cX10_why 94 = .ok (.i2l, 1) := by decide +kernel
theorem dX10_why_95 : decode cX10_why 95 = .ok (.aload_n 0, 1) := by decide +kernel
theorem dX10_why_96 : decode cX10_why 96 = .ok (.getfield 155, 3) := by decide +kernel
theorem dX10_why_99 : decode cX10_why 99 = .ok (.iload 8, 2) := by decide +kernel
theorem dX10_why_101 : decode cX10_why 101 = .ok (.iaload, 1) := by decide +kernel
theorem dX10_why_102 : decode cX10_why 102 = .ok (.i2l, 1) := by decide +kernel
theorem dX10_why_103 : decode cX10_why 103 = .ok (.aload_n 0, 1) := by decide +kernel
theorem dX10_why_104 : decode cX10_why 104 = .ok (.getfield 137, 3) := by decide +kernel
theorem dX10_why_107 : decode cX10_why 107 = .ok (.iload_n 1, 1) := by decide +kernel
theorem dX10_why_108 : decode cX10_why 108 = .ok (.iaload, 1) := by decide +kernel
theorem dX10_why_109 : decode cX10_why 109 = .ok (.i2l, 1) := by decide +kernel
theorem dX10_why_110 : decode cX10_why 110 = .ok (.lmul, 1) := by decide +kernel
theorem dX10_why_111 : decode cX10_why 111 = .ok (.ladd, 1) := by decide +kernel
theorem dX10_why_112 : decode cX10_why 112 = .ok (.lstore 11, 2) := by decide +kernel
theorem dX10_why_114 : decode cX10_why 114 = .ok (.aload_n 0, 1) := by decide +kernel
theorem dX10_why_115 : decode cX10_why 115 = .ok (.getfield 155, 3) := by decide +kernel
theorem dX10_why_118 : decode cX10_why 118 = .ok (.iload 8, 2) := by decide +kernel
theorem dX10_why_120 : decode cX10_why 120 = .ok (.dup2, 1) := by decide +kernel
theorem dX10_why_121 : decode cX10_why 121 = .ok (.iaload, 1) := by decide +kernel
theorem dX10_why_122 : decode cX10_why 122 = .ok (.iconst 1, 1) := by decide +kernel
theorem dX10_why_123 : decode cX10_why 123 = .ok (.iadd, 1) := by decide +kernel
theorem dX10_why_124 : decode cX10_why 124 = .ok (.iastore, 1) := by decide +kernel
theorem dX10_why_125 : decode cX10_why 125 = .ok (.lload 9, 2) := by decide +kernel
theorem dX10_why_127 : decode cX10_why 127 = .ok (.lconst 0, 1) := by decide +kernel
theorem dX10_why_128 : decode cX10_why 128 = .ok (.lcmp, 1) := by decide +kernel
theorem dX10_why_129 : decode cX10_why 129 = .ok (.ifCond .lt 16, 3) := by decide +kernel
theorem dX10_why_132 : decode cX10_why 132 = .ok (.lload 9, 2) := by decide +kernel
theorem dX10_why_134 : decode cX10_why 134 = .ok (.aload_n 0, 1) := by decide +kernel
theorem dX10_why_135 : decode cX10_why 135 = .ok (.getfield 7, 3) := by decide +kernel
theorem dX10_why_138 : decode cX10_why 138 = .ok (.iload_n 2, 1) := by decide +kernel
theorem dX10_why_139 : decode cX10_why 139 = .ok (.iaload, 1) := by decide +kernel
theorem dX10_why_140 : decode cX10_why 140 = .ok (.i2l, 1) := by decide +kernel
theorem dX10_why_141 : decode cX10_why 141 = .ok (.lcmp, 1) := by decide +kernel
theorem dX10_why_142 : decode cX10_why 142 = .ok (.ifCond .lt 5, 3) := by decide +kernel
theorem dX10_why_145 : decode cX10_why 145 = .ok (.iconst 1, 1) := by decide +kernel
theorem dX10_why_146 : decode cX10_why 146 = .ok (.ireturn, 1) := by decide +kernel
theorem dX10_why_147 : decode cX10_why 147 = .ok (.aload_n 0, 1) := by decide +kernel
theorem dX10_why_148 : decode cX10_why 148 = .ok (.iload_n 2, 1) := by decide +kernel
theorem dX10_why_149 : decode cX10_why 149 = .ok (.lload 9, 2) := by decide +kernel
theorem dX10_why_151 : decode cX10_why 151 = .ok (.l2i, 1) := by decide +kernel
theorem dX10_why_152 : decode cX10_why 152 = .ok (.iload 5, 2) := by decide +kernel
theorem dX10_why_154 : decode cX10_why 154 = .ok (.i2l, 1) := by decide +kernel
theorem dX10_why_155 : decode cX10_why 155 = .ok (.lload 11, 2) := by decide +kernel
theorem dX10_why_157 : decode cX10_why 157 = .ok (.aload_n 0, 1) := by decide +kernel
theorem dX10_why_158 : decode cX10_why 158 = .ok (.getfield 134, 3) := by decide +kernel
theorem dX10_why_161 : decode cX10_why 161 = .ok (.iload_n 1, 1) := by decide +kernel
theorem dX10_why_162 : decode cX10_why 162 = .ok (.iaload, 1) := by decide +kernel
theorem dX10_why_163 : decode cX10_why 163 = .ok (.aload_n 0, 1) := by decide +kernel
theorem dX10_why_164 : decode cX10_why 164 = .ok (.getfield 137, 3) := by decide +kernel
theorem dX10_why_167 : decode cX10_why 167 = .ok (.iload_n 1, 1) := by decide +kernel
theorem dX10_why_168 : decode cX10_why 168 = .ok (.iaload, 1) := by decide +kernel
theorem dX10_why_169 : decode cX10_why 169 = .ok (.invokevirtual 201, 3) := by decide +kernel
theorem dX10_why_172 : decode cX10_why 172 = .ok (.ifCond .ne 5, 3) := by decide +kernel
theorem dX10_why_175 : decode cX10_why 175 = .ok (.iconst 2, 1) := by decide +kernel
theorem dX10_why_176 : decode cX10_why 176 = .ok (.ireturn, 1) := by decide +kernel
theorem dX10_why_177 : decode cX10_why 177 = .ok (.aload_n 0, 1) := by decide +kernel
theorem dX10_why_178 : decode cX10_why 178 = .ok (.iload_n 2, 1) := by decide +kernel
theorem dX10_why_179 : decode cX10_why 179 = .ok (.lload 9, 2) := by decide +kernel
theorem dX10_why_181 : decode cX10_why 181 = .ok (.l2i, 1) := by decide +kernel
theorem dX10_why_182 : decode cX10_why 182 = .ok (.iload 5, 2) := by decide +kernel
theorem dX10_why_184 : decode cX10_why 184 = .ok (.lload 11, 2) := by decide +kernel
theorem dX10_why_186 : decode cX10_why 186 = .ok (.l2i, 1) := by decide +kernel
theorem dX10_why_187 : decode cX10_why 187 = .ok (.aload_n 0, 1) := by decide +kernel
theorem dX10_why_188 : decode cX10_why 188 = .ok (.getfield 134, 3) := by decide +kernel
theorem dX10_why_191 : decode cX10_why 191 = .ok (.iload_n 1, 1) := by decide +kernel
theorem dX10_why_192 : decode cX10_why 192 = .ok (.iaload, 1) := by decide +kernel
theorem dX10_why_193 : decode cX10_why 193 = .ok (.aload_n 0, 1) := by decide +kernel
theorem dX10_why_194 : decode cX10_why 194 = .ok (.getfield 137, 3) := by decide +kernel
theorem dX10_why_197 : decode cX10_why 197 = .ok (.iload_n 1, 1) := by decide +kernel
theorem dX10_why_198 : decode cX10_why 198 = .ok (.iaload, 1) := by decide +kernel
theorem dX10_why_199 : decode cX10_why 199 = .ok (.invokevirtual 205, 3) := by decide +kernel
theorem dX10_why_202 : decode cX10_why 202 = .ok (.iconst (-1), 1) := by decide +kernel
theorem dX10_why_203 : decode cX10_why 203 = .ok (.if_icmp .eq 5, 3) := by decide +kernel
theorem dX10_why_206 : decode cX10_why 206 = .ok (.iconst 3, 1) := by decide +kernel
theorem dX10_why_207 : decode cX10_why 207 = .ok (.ireturn, 1) := by decide +kernel
theorem dX10_why_208 : decode cX10_why 208 = .ok (.aload_n 0, 1) := by decide +kernel
theorem dX10_why_209 : decode cX10_why 209 = .ok (.iload_n 2, 1) := by decide +kernel
theorem dX10_why_210 : decode cX10_why 210 = .ok (.lload 9, 2) := by decide +kernel
theorem dX10_why_212 : decode cX10_why 212 = .ok (.l2i, 1) := by decide +kernel
theorem dX10_why_213 : decode cX10_why 213 = .ok (.iload 5, 2) := by decide +kernel
theorem dX10_why_215 : decode cX10_why 215 = .ok (.lload 11, 2) := by decide +kernel
theorem dX10_why_217 : decode cX10_why 217 = .ok (.l2i, 1) := by decide +kernel
theorem dX10_why_218 : decode cX10_why 218 = .ok (.aload_n 0, 1) := by decide +kernel
theorem dX10_why_219 : decode cX10_why 219 = .ok (.getfield 134, 3) := by decide +kernel
theorem dX10_why_222 : decode cX10_why 222 = .ok (.iload_n 1, 1) := by decide +kernel
theorem dX10_why_223 : decode cX10_why 223 = .ok (.iaload, 1) := by decide +kernel
theorem dX10_why_224 : decode cX10_why 224 = .ok (.aload_n 0, 1) := by decide +kernel
theorem dX10_why_225 : decode cX10_why 225 = .ok (.getfield 137, 3) := by decide +kernel
theorem dX10_why_228 : decode cX10_why 228 = .ok (.iload_n 1, 1) := by decide +kernel
theorem dX10_why_229 : decode cX10_why 229 = .ok (.iaload, 1) := by decide +kernel
theorem dX10_why_230 : decode cX10_why 230 = .ok (.invokevirtual 298, 3) := by decide +kernel
theorem dX10_why_233 : decode cX10_why 233 = .ok (.ifCond .eq 5, 3) := by decide +kernel
theorem dX10_why_236 : decode cX10_why 236 = .ok (.iconst 4, 1) := by decide +kernel
theorem dX10_why_237 : decode cX10_why 237 = .ok (.ireturn, 1) := by decide +kernel
theorem dX10_why_238 : decode cX10_why 238 = .ok (.iinc 7 1, 3) := by decide +kernel
theorem dX10_why_241 : decode cX10_why 241 = .ok (.goto (-182), 3) := by decide +kernel
theorem dX10_why_244 : decode cX10_why 244 = .ok (.iinc 6 1, 3) := by decide +kernel
theorem dX10_why_247 : decode cX10_why 247 = .ok (.goto (-202), 3) := by decide +kernel
theorem dX10_why_250 : decode cX10_why 250 = .ok (.aload_n 0, 1) := by decide +kernel
theorem dX10_why_251 : decode cX10_why 251 = .ok (.iload_n 1, 1) := by decide +kernel
theorem dX10_why_252 : decode cX10_why 252 = .ok (.iload_n 2, 1) := by decide +kernel
theorem dX10_why_253 : decode cX10_why 253 = .ok (.iload_n 3, 1) := by decide +kernel
theorem dX10_why_254 : decode cX10_why 254 = .ok (.invokevirtual 301, 3) := by decide +kernel
theorem dX10_why_257 : decode cX10_why 257 = .ok (.ifCond .eq 7, 3) := by decide +kernel
theorem dX10_why_260 : decode cX10_why 260 = .ok (.iconst 0, 1) := by decide +kernel
theorem dX10_why_261 : decode cX10_why 261 = .ok (.goto 4, 3) := by decide +kernel
theorem dX10_why_264 : decode cX10_why 264 = .ok (.iconst 5, 1) := by decide +kernel
theorem dX10_why_265 : decode cX10_why 265 = .ok (.ireturn, 1) := by decide +kernel
theorem dX10_hasLeaves_0 : decode cX10_hasLeaves 0 = .ok (.iconst 0, 1) := by decide +kernel
theorem dX10_hasLeaves_1 : decode cX10_hasLeaves 1 = .ok (.istore 4, 2) := by decide +kernel
theorem dX10_hasLeaves_3 : decode cX10_hasLeaves 3 = .ok (.iload 4, 2) := by decide +kernel
theorem dX10_hasLeaves_5 : decode cX10_hasLeaves 5 = .ok (.bipush 10, 2) := by decide +kernel
theorem dX10_hasLeaves_7 : decode cX10_hasLeaves 7 = .ok (.if_icmp .ge 34, 3) := by decide +kernel
theorem dX10_hasLeaves_10 : decode cX10_hasLeaves 10 = .ok (.aload_n 0, 1) := by decide +kernel
theorem dX10_hasLeaves_11 : decode cX10_hasLeaves 11 = .ok (.getfield 155, 3) := by decide +kernel
theorem dX10_hasLeaves_14 : decode cX10_hasLeaves 14 = .ok (.iload 4, 2) := by decide +kernel
theorem dX10_hasLeaves_16 : decode cX10_hasLeaves 16 = .ok (.iaload, 1) := by decide +kernel
theorem dX10_hasLeaves_17 : decode cX10_hasLeaves 17 = .ok (.ifCond .le 18, 3) := by decide +kernel
theorem dX10_hasLeaves_20 : decode cX10_hasLeaves 20 = .ok (.iload_n 3, 1) := by decide +kernel
theorem dX10_hasLeaves_21 : decode cX10_hasLeaves 21 = .ok (.iload 4, 2) := by decide +kernel
theorem dX10_hasLeaves_23 : decode cX10_hasLeaves 23 = .ok (.iadd, 1) := by decide +kernel
theorem dX10_hasLeaves_24 : decode cX10_hasLeaves 24 = .ok (.aload_n 0, 1) := by decide +kernel
theorem dX10_hasLeaves_25 : decode cX10_hasLeaves 25 = .ok (.getfield 7, 3) := by decide +kernel
theorem dX10_hasLeaves_28 : decode cX10_hasLeaves 28 = .ok (.iload_n 2, 1) := by decide +kernel
theorem dX10_hasLeaves_29 : decode cX10_hasLeaves 29 = .ok (.iaload, 1) := by decide +kernel
theorem dX10_hasLeaves_30 : decode cX10_hasLeaves 30 = .ok (.if_icmp .lt 5, 3) := by decide +kernel
theorem dX10_hasLeaves_33 : decode cX10_hasLeaves 33 = .ok (.iconst 0, 1) := by decide +kernel
theorem dX10_hasLeaves_34 : decode cX10_hasLeaves 34 = .ok (.ireturn, 1) := by decide +kernel
theorem dX10_hasLeaves_35 : decode cX10_hasLeaves 35 = .ok (.iinc 4 1, 3) := by decide +kernel
theorem dX10_hasLeaves_38 : decode cX10_hasLeaves 38 = .ok (.goto (-35), 3) := by decide +kernel
theorem dX10_hasLeaves_41 : decode cX10_hasLeaves 41 = .ok (.aload_n 0, 1) := by decide +kernel
theorem dX10_hasLeaves_42 : decode cX10_hasLeaves 42 = .ok (.iload_n 1, 1) := by decide +kernel
theorem dX10_hasLeaves_43 : decode cX10_hasLeaves 43 = .ok (.iload_n 2, 1) := by decide +kernel
theorem dX10_hasLeaves_44 : decode cX10_hasLeaves 44 = .ok (.iload_n 3, 1) := by decide +kernel
theorem dX10_hasLeaves_45 : decode cX10_hasLeaves 45 = .ok (.invokevirtual 301, 3) := by decide +kernel
theorem dX10_hasLeaves_48 : decode cX10_hasLeaves 48 = .ok (.ireturn, 1) := by decide +kernel
theorem dX10_places_0 : decode cX10_places 0 = .ok (.aload_n 0, 1) := by decide +kernel
theorem dX10_places_1 : decode cX10_places 1 = .ok (.iload_n 1, 1) := by decide +kernel
theorem dX10_places_2 : decode cX10_places 2 = .ok (.invokevirtual 304, 3) := by decide +kernel
theorem dX10_places_5 : decode cX10_places 5 = .ok (.iconst 0, 1) := by decide +kernel
theorem dX10_places_6 : decode cX10_places 6 = .ok (.istore_n 3, 1) := by decide +kernel
theorem dX10_places_7 : decode cX10_places 7 = .ok (.iload_n 3, 1) := by decide +kernel
theorem dX10_places_8 : decode cX10_places 8 = .ok (.aload_n 0, 1) := by decide +kernel
theorem dX10_places_9 : decode cX10_places 9 = .ok (.getfield 7, 3) := by decide +kernel
theorem dX10_places_12 : decode cX10_places 12 = .ok (.iload_n 2, 1) := by decide +kernel
theorem dX10_places_13 : decode cX10_places 13 = .ok (.iaload, 1) := by decide +kernel
theorem dX10_places_14 : decode cX10_places 14 = .ok (.if_icmp .ge 94, 3) := by decide +kernel
theorem dX10_places_17 : decode cX10_places 17 = .ok (.aload_n 0, 1) := by decide +kernel
theorem dX10_places_18 : decode cX10_places 18 = .ok (.iload_n 1, 1) := by decide +kernel
theorem dX10_places_19 : decode cX10_places 19 = .ok (.iload_n 2, 1) := by decide +kernel
theorem dX10_places_20 : decode cX10_places 20 = .ok (.iload_n 3, 1) := by decide +kernel
theorem dX10_places_21 : decode cX10_places 21 = .ok (.invokevirtual 308, 3) := by decide +kernel
theorem dX10_places_24 : decode cX10_places 24 = .ok (.ifCond .ne 6, 3) := by decide +kernel
theorem dX10_places_27 : decode cX10_places 27 = .ok (.goto 75, 3) := by decide +kernel
theorem dX10_places_30 : decode cX10_places 30 = .ok (.iconst 0, 1) := by decide +kernel
theorem dX10_places_31 : decode cX10_places 31 = .ok (.istore 4, 2) := by decide +kernel
theorem dX10_places_33 : decode cX10_places 33 = .ok (.iload 4, 2) := by decide +kernel
theorem dX10_places_35 : decode cX10_places 35 = .ok (.aload_n 0, 1) := by decide +kernel
theorem dX10_places_36 : decode cX10_places 36 = .ok (.getfield 13, 3) := by decide +kernel
theorem dX10_places_39 : decode cX10_places 39 = .ok (.iload_n 2, 1) := by decide +kernel
theorem dX10_places_40 : decode cX10_places 40 = .ok (.iaload, 1) := by decide +kernel
theorem dX10_places_41 : decode cX10_places 41 = .ok (.if_icmp .ge 61, 3) := by decide +kernel
theorem dX10_places_44 : decode cX10_places 44 = .ok (.iconst 0, 1) := by decide +kernel
theorem dX10_places_45 : decode cX10_places 45 = .ok (.istore 5, 2) := by decide +kernel
theorem dX10_places_47 : decode cX10_places 47 = .ok (.iload 5, 2) := by decide +kernel
theorem dX10_places_49 : decode cX10_places 49 = .ok (.bipush 64, 2) := by decide +kernel
theorem dX10_places_51 : decode cX10_places 51 = .ok (.if_icmp .ge 45, 3) := by decide +kernel
theorem dX10_places_54 : decode cX10_places 54 = .ok (.aload_n 0, 1) := by decide +kernel
theorem dX10_places_55 : decode cX10_places 55 = .ok (.iload_n 1, 1) := by decide +kernel
theorem dX10_places_56 : decode cX10_places 56 = .ok (.iload_n 2, 1) := by decide +kernel
theorem dX10_places_57 : decode cX10_places 57 = .ok (.iload_n 3, 1) := by decide +kernel
theorem dX10_places_58 : decode cX10_places 58 = .ok (.iload 4, 2) := by decide +kernel
theorem dX10_places_60 : decode cX10_places 60 = .ok (.iload 5, 2) := by decide +kernel
theorem dX10_places_62 : decode cX10_places 62 = .ok (.invokevirtual 311, 3) := by decide +kernel
theorem dX10_places_65 : decode cX10_places 65 = .ok (.ifCond .ne 6, 3) := by decide +kernel
theorem dX10_places_68 : decode cX10_places 68 = .ok (.goto 22, 3) := by decide +kernel
theorem dX10_places_71 : decode cX10_places 71 = .ok (.aload_n 0, 1) := by decide +kernel
theorem dX10_places_72 : decode cX10_places 72 = .ok (.iload_n 3, 1) := by decide +kernel
theorem dX10_places_73 : decode cX10_places 73 = .ok (.putfield 315, 3) := by decide +kernel
theorem dX10_places_76 : decode cX10_places 76 = .ok (.aload_n 0, 1) := by decide +kernel
theorem dX10_places_77 : decode cX10_places 77 = .ok (.iload 4, 2) := by decide +kernel
theorem dX10_places_79 : decode cX10_places 79 = .ok (.putfield 318, 3) := by decide +kernel
theorem dX10_places_82 : decode cX10_places 82 = .ok (.aload_n 0, 1) := by decide +kernel
theorem dX10_places_83 : decode cX10_places 83 = .ok (.iload 5, 2) := by decide +kernel
theorem dX10_places_85 : decode cX10_places 85 = .ok (.putfield 321, 3) := by decide +kernel
theorem dX10_places_88 : decode cX10_places 88 = .ok (.iconst 1, 1) := by decide +kernel
theorem dX10_places_89 : decode cX10_places 89 = .ok (.ireturn, 1) := by decide +kernel
theorem dX10_places_90 : decode cX10_places 90 = .ok (.iinc 5 1, 3) := by decide +kernel
theorem dX10_places_93 : decode cX10_places 93 = .ok (.goto (-46), 3) := by decide +kernel
theorem dX10_places_96 : decode cX10_places 96 = .ok (.iinc 4 1, 3) := by decide +kernel
theorem dX10_places_99 : decode cX10_places 99 = .ok (.goto (-66), 3) := by decide +kernel
theorem dX10_places_102 : decode cX10_places 102 = .ok (.iinc 3 1, 3) := by decide +kernel
theorem dX10_places_105 : decode cX10_places 105 = .ok (.goto (-98), 3) := by decide +kernel
theorem dX10_places_108 : decode cX10_places 108 = .ok (.iconst 0, 1) := by decide +kernel
theorem dX10_places_109 : decode cX10_places 109 = .ok (.ireturn, 1) := by decide +kernel
theorem dX10_place_0 : decode cX10_place 0 = .ok (.aload_n 0, 1) := by decide +kernel
theorem dX10_place_1 : decode cX10_place 1 = .ok (.iload_n 1, 1) := by decide +kernel
theorem dX10_place_2 : decode cX10_place 2 = .ok (.invokevirtual 276, 3) := by decide +kernel
theorem dX10_place_5 : decode cX10_place 5 = .ok (.ifCond .eq 29, 3) := by decide +kernel
theorem dX10_place_8 : decode cX10_place 8 = .ok (.aload_n 0, 1) := by decide +kernel
theorem dX10_place_9 : decode cX10_place 9 = .ok (.iload_n 2, 1) := by decide +kernel
theorem dX10_place_10 : decode cX10_place 10 = .ok (.invokevirtual 167, 3) := by decide +kernel
theorem dX10_place_13 : decode cX10_place 13 = .ok (.ifCond .eq 21, 3) := by decide +kernel
theorem dX10_place_16 : decode cX10_place 16 = .ok (.iload_n 3, 1) := by decide +kernel
theorem dX10_place_17 : decode cX10_place 17 = .ok (.ifCond .lt 17, 3) := by decide +kernel
theorem dX10_place_20 : decode cX10_place 20 = .ok (.iload_n 3, 1) := by decide +kernel
theorem dX10_place_21 : decode cX10_place 21 = .ok (.iconst 2, 1) := by decide +kernel
theorem dX10_place_22 : decode cX10_place 22 = .ok (.if_icmp .gt 12, 3) := by decide +kernel
theorem dX10_place_25 : decode cX10_place 25 = .ok (.aload_n 0, 1) := by decide +kernel
theorem dX10_place_26 : decode cX10_place 26 = .ok (.iload_n 1, 1) := by decide +kernel
theorem dX10_place_27 : decode cX10_place 27 = .ok (.iload_n 2, 1) := by decide +kernel
theorem dX10_place_28 : decode cX10_place 28 = .ok (.invokevirtual 324, 3) := by decide +kernel
theorem dX10_place_31 : decode cX10_place 31 = .ok (.ifCond .ne 5, 3) := by decide +kernel
theorem dX10_place_34 : decode cX10_place 34 = .ok (.iconst (-1), 1) := by decide +kernel
theorem dX10_place_35 : decode cX10_place 35 = .ok (.ireturn, 1) := by decide +kernel
theorem dX10_place_36 : decode cX10_place 36 = .ok (.iload_n 3, 1) := by decide +kernel
theorem dX10_place_37 : decode cX10_place 37 = .ok (.ifCond .ne 10, 3) := by decide +kernel
theorem dX10_place_40 : decode cX10_place 40 = .ok (.aload_n 0, 1) := by decide +kernel
theorem dX10_place_41 : decode cX10_place 41 = .ok (.getfield 315, 3) := by decide +kernel
theorem dX10_place_44 : decode cX10_place 44 = .ok (.goto 19, 3) := by decide +kernel
theorem dX10_place_47 : decode cX10_place 47 = .ok (.iload_n 3, 1) := by decide +kernel
theorem dX10_place_48 : decode cX10_place 48 = .ok (.iconst 1, 1) := by decide +kernel
theorem dX10_place_49 : decode cX10_place 49 = .ok (.if_icmp .ne 10, 3) := by decide +kernel
theorem dX10_place_52 : decode cX10_place 52 = .ok (.aload_n 0, 1) := by decide +kernel
theorem dX10_place_53 : decode cX10_place 53 = .ok (.getfield 318, 3) := by decide +kernel
theorem dX10_place_56 : decode cX10_place 56 = .ok (.goto 7, 3) := by decide +kernel
theorem dX10_place_59 : decode cX10_place 59 = .ok (.aload_n 0, 1) := by decide +kernel
theorem dX10_place_60 : decode cX10_place 60 = .ok (.getfield 321, 3) := by decide +kernel
theorem dX10_place_63 : decode cX10_place 63 = .ok (.ireturn, 1) := by decide +kernel
theorem dX10_cuts_0 : decode cX10_cuts 0 = .ok (.iconst 0, 1) := by decide +kernel
theorem dX10_cuts_1 : decode cX10_cuts 1 = .ok (.istore_n 3, 1) := by decide +kernel
theorem dX10_cuts_2 : decode cX10_cuts 2 = .ok (.iload_n 3, 1) := by decide +kernel
theorem dX10_cuts_3 : decode cX10_cuts 3 = .ok (.bipush 10, 2) := by decide +kernel
theorem dX10_cuts_5 : decode cX10_cuts 5 = .ok (.if_icmp .ge 144, 3) := by decide +kernel
theorem dX10_cuts_8 : decode cX10_cuts 8 = .ok (.aload_n 0, 1) := by decide +kernel
theorem dX10_cuts_9 : decode cX10_cuts 9 = .ok (.getfield 155, 3) := by decide +kernel
theorem dX10_cuts_12 : decode cX10_cuts 12 = .ok (.iload_n 3, 1) := by decide +kernel
theorem dX10_cuts_13 : decode cX10_cuts 13 = .ok (.iaload, 1) := by decide +kernel
theorem dX10_cuts_14 : decode cX10_cuts 14 = .ok (.ifCond .ne 6, 3) := by decide +kernel
theorem dX10_cuts_17 : decode cX10_cuts 17 = .ok (.goto 126, 3) := by decide +kernel
theorem dX10_cuts_20 : decode cX10_cuts 20 = .ok (.aload_n 0, 1) := by decide +kernel
theorem dX10_cuts_21 : decode cX10_cuts 21 = .ok (.getfield 55, 3) := by decide +kernel
theorem dX10_cuts_24 : decode cX10_cuts 24 = .ok (.aload_n 0, 1) := by decide +kernel
theorem dX10_cuts_25 : decode cX10_cuts 25 = .ok (.getfield 171, 3) := by decide +kernel
theorem dX10_cuts_28 : decode cX10_cuts 28 = .ok (.iload_n 2, 1) := by decide +kernel
theorem dX10_cuts_29 : decode cX10_cuts 29 = .ok (.iastore, 1) := by decide +kernel
theorem dX10_cuts_30 : decode cX10_cuts 30 = .ok (.aload_n 0, 1) := by decide +kernel
theorem dX10_cuts_31 : decode cX10_cuts 31 = .ok (.getfield 58, 3) := by decide +kernel
theorem dX10_cuts_34 : decode cX10_cuts 34 = .ok (.aload_n 0, 1) := by decide +kernel
theorem dX10_cuts_35 : decode cX10_cuts 35 = .ok (.getfield 171, 3) := by decide +kernel
theorem dX10_cuts_38 : decode cX10_cuts 38 = .ok (.aload_n 0, 1) := by decide +kernel
theorem dX10_cuts_39 : decode cX10_cuts 39 = .ok (.getfield 315, 3) := by decide +kernel
theorem dX10_cuts_42 : decode cX10_cuts 42 = .ok (.iload_n 3, 1) := by decide +kernel
theorem dX10_cuts_43 : decode cX10_cuts 43 = .ok (.iadd, 1) := by decide +kernel
theorem dX10_cuts_44 : decode cX10_cuts 44 = .ok (.iastore, 1) := by decide +kernel
theorem dX10_cuts_45 : decode cX10_cuts 45 = .ok (.aload_n 0, 1) := by decide +kernel
theorem dX10_cuts_46 : decode cX10_cuts 46 = .ok (.getfield 61, 3) := by decide +kernel
theorem dX10_cuts_49 : decode cX10_cuts 49 = .ok (.aload_n 0, 1) := by decide +kernel
theorem dX10_cuts_50 : decode cX10_cuts 50 = .ok (.getfield 171, 3) := by decide +kernel
theorem dX10_cuts_53 : decode cX10_cuts 53 = .ok (.aload_n 0, 1) := by decide +kernel
theorem dX10_cuts_54 : decode cX10_cuts 54 = .ok (.getfield 321, 3) := by decide +kernel
theorem dX10_cuts_57 : decode cX10_cuts 57 = .ok (.iastore, 1) := by decide +kernel
theorem dX10_cuts_58 : decode cX10_cuts 58 = .ok (.aload_n 0, 1) := by decide +kernel
theorem dX10_cuts_59 : decode cX10_cuts 59 = .ok (.getfield 64, 3) := by decide +kernel
theorem dX10_cuts_62 : decode cX10_cuts 62 = .ok (.aload_n 0, 1) := by decide +kernel
theorem dX10_cuts_63 : decode cX10_cuts 63 = .ok (.getfield 171, 3) := by decide +kernel
theorem dX10_cuts_66 : decode cX10_cuts 66 = .ok (.aload_n 0, 1) := by decide +kernel
theorem dX10_cuts_67 : decode cX10_cuts 67 = .ok (.getfield 318, 3) := by decide +kernel
theorem dX10_cuts_70 : decode cX10_cuts 70 = .ok (.iastore, 1) := by decide +kernel
theorem dX10_cuts_71 : decode cX10_cuts 71 = .ok (.aload_n 0, 1) := by decide +kernel
theorem dX10_cuts_72 : decode cX10_cuts 72 = .ok (.getfield 67, 3) := by decide +kernel
theorem dX10_cuts_75 : decode cX10_cuts 75 = .ok (.aload_n 0, 1) := by decide +kernel
theorem dX10_cuts_76 : decode cX10_cuts 76 = .ok (.getfield 171, 3) := by decide +kernel
theorem dX10_cuts_79 : decode cX10_cuts 79 = .ok (.aload_n 0, 1) := by decide +kernel
theorem dX10_cuts_80 : decode cX10_cuts 80 = .ok (.getfield 134, 3) := by decide +kernel
theorem dX10_cuts_83 : decode cX10_cuts 83 = .ok (.iload_n 1, 1) := by decide +kernel
theorem dX10_cuts_84 : decode cX10_cuts 84 = .ok (.iaload, 1) := by decide +kernel
theorem dX10_cuts_85 : decode cX10_cuts 85 = .ok (.iastore, 1) := by decide +kernel
theorem dX10_cuts_86 : decode cX10_cuts 86 = .ok (.aload_n 0, 1) := by decide +kernel
theorem dX10_cuts_87 : decode cX10_cuts 87 = .ok (.getfield 70, 3) := by decide +kernel
theorem dX10_cuts_90 : decode cX10_cuts 90 = .ok (.aload_n 0, 1) := by decide +kernel
theorem dX10_cuts_91 : decode cX10_cuts 91 = .ok (.getfield 171, 3) := by decide +kernel
theorem dX10_cuts_94 : decode cX10_cuts 94 = .ok (.aload_n 0, 1) := by decide +kernel
theorem dX10_cuts_95 : decode cX10_cuts 95 = .ok (.getfield 155, 3) := by decide +kernel
theorem dX10_cuts_98 : decode cX10_cuts 98 = .ok (.iload_n 3, 1) := by decide +kernel
theorem dX10_cuts_99 : decode cX10_cuts 99 = .ok (.iaload, 1) := by decide +kernel
theorem dX10_cuts_100 : decode cX10_cuts 100 = .ok (.aload_n 0, 1) := by decide +kernel
theorem dX10_cuts_101 : decode cX10_cuts 101 = .ok (.getfield 137, 3) := by decide +kernel
theorem dX10_cuts_104 : decode cX10_cuts 104 = .ok (.iload_n 1, 1) := by decide +kernel
theorem dX10_cuts_105 : decode cX10_cuts 105 = .ok (.iaload, 1) := by decide +kernel
theorem dX10_cuts_106 : decode cX10_cuts 106 = .ok (.imul, 1) := by decide +kernel
theorem dX10_cuts_107 : decode cX10_cuts 107 = .ok (.iastore, 1) := by decide +kernel
theorem dX10_cuts_108 : decode cX10_cuts 108 = .ok (.aload_n 0, 1) := by decide +kernel
theorem dX10_cuts_109 : decode cX10_cuts 109 = .ok (.getfield 73, 3) := by decide +kernel
theorem dX10_cuts_112 : decode cX10_cuts 112 = .ok (.aload_n 0, 1) := by decide +kernel
theorem dX10_cuts_113 : decode cX10_cuts 113 = .ok (.getfield 171, 3) := by decide +kernel
theorem dX10_cuts_116 : decode cX10_cuts 116 = .ok (.aload_n 0, 1) := by decide +kernel
theorem dX10_cuts_117 : decode cX10_cuts 117 = .ok (.getfield 155, 3) := by decide +kernel
theorem dX10_cuts_120 : decode cX10_cuts 120 = .ok (.iload_n 3, 1) := by decide +kernel
theorem dX10_cuts_121 : decode cX10_cuts 121 = .ok (.iaload, 1) := by decide +kernel
theorem dX10_cuts_122 : decode cX10_cuts 122 = .ok (.iastore, 1) := by decide +kernel
theorem dX10_cuts_123 : decode cX10_cuts 123 = .ok (.aload_n 0, 1) := by decide +kernel
theorem dX10_cuts_124 : decode cX10_cuts 124 = .ok (.getfield 76, 3) := by decide +kernel
theorem dX10_cuts_127 : decode cX10_cuts 127 = .ok (.aload_n 0, 1) := by decide +kernel
theorem dX10_cuts_128 : decode cX10_cuts 128 = .ok (.getfield 171, 3) := by decide +kernel
theorem dX10_cuts_131 : decode cX10_cuts 131 = .ok (.iload_n 1, 1) := by decide +kernel
theorem dX10_cuts_132 : decode cX10_cuts 132 = .ok (.iastore, 1) := by decide +kernel
theorem dX10_cuts_133 : decode cX10_cuts 133 = .ok (.aload_n 0, 1) := by decide +kernel
theorem dX10_cuts_134 : decode cX10_cuts 134 = .ok (.dup, 1) := by decide +kernel
theorem dX10_cuts_135 : decode cX10_cuts 135 = .ok (.getfield 171, 3) := by decide +kernel
theorem dX10_cuts_138 : decode cX10_cuts 138 = .ok (.iconst 1, 1) := by decide +kernel
theorem dX10_cuts_139 : decode cX10_cuts 139 = .ok (.iadd, 1) := by decide +kernel
theorem dX10_cuts_140 : decode cX10_cuts 140 = .ok (.putfield 171, 3) := by decide +kernel
theorem dX10_cuts_143 : decode cX10_cuts 143 = .ok (.iinc 3 1, 3) := by decide +kernel
theorem dX10_cuts_146 : decode cX10_cuts 146 = .ok (.goto (-144), 3) := by decide +kernel
theorem dX10_cuts_149 : decode cX10_cuts 149 = .ok (.return_, 1) := by decide +kernel
theorem dX10_make_0 : decode cX10_make 0 = .ok (.aload_n 0, 1) := by decide +kernel
theorem dX10_make_1 : decode cX10_make 1 = .ok (.iload_n 1, 1) := by decide +kernel
theorem dX10_make_2 : decode cX10_make 2 = .ok (.invokevirtual 276, 3) := by decide +kernel
theorem dX10_make_5 : decode cX10_make 5 = .ok (.ifCond .eq 30, 3) := by decide +kernel
theorem dX10_make_8 : decode cX10_make 8 = .ok (.aload_n 0, 1) := by decide +kernel
theorem dX10_make_9 : decode cX10_make 9 = .ok (.iload_n 2, 1) := by decide +kernel
theorem dX10_make_10 : decode cX10_make 10 = .ok (.invokevirtual 167, 3) := by decide +kernel
theorem dX10_make_13 : decode cX10_make 13 = .ok (.ifCond .eq 22, 3) := by decide +kernel
theorem dX10_make_16 : decode cX10_make 16 = .ok (.aload_n 0, 1) := by decide +kernel
theorem dX10_make_17 : decode cX10_make 17 = .ok (.getfield 143, 3) := by decide +kernel
theorem dX10_make_20 : decode cX10_make 20 = .ok (.iload_n 1, 1) := by decide +kernel
theorem dX10_make_21 : decode cX10_make 21 = .ok (.iaload, 1) := by decide +kernel
theorem dX10_make_22 : decode cX10_make 22 = .ok (.iconst (-1), 1) := by decide +kernel
theorem dX10_make_23 : decode cX10_make 23 = .ok (.if_icmp .ne 12, 3) := by decide +kernel
theorem dX10_make_26 : decode cX10_make 26 = .ok (.aload_n 0, 1) := by decide +kernel
theorem dX10_make_27 : decode cX10_make 27 = .ok (.iload_n 1, 1) := by decide +kernel
theorem dX10_make_28 : decode cX10_make 28 = .ok (.iload_n 2, 1) := by decide +kernel
theorem dX10_make_29 : decode cX10_make 29 = .ok (.invokevirtual 324, 3) := by decide +kernel
theorem dX10_make_32 : decode cX10_make 32 = .ok (.ifCond .ne 5, 3) := by decide +kernel
theorem dX10_make_35 : decode cX10_make 35 = .ok (.iconst (-1), 1) := by decide +kernel
theorem dX10_make_36 : decode cX10_make 36 = .ok (.ireturn, 1) := by decide +kernel
theorem dX10_make_37 : decode cX10_make 37 = .ok (.aload_n 0, 1) := by decide +kernel
theorem dX10_make_38 : decode cX10_make 38 = .ok (.iload_n 1, 1) := by decide +kernel
theorem dX10_make_39 : decode cX10_make 39 = .ok (.iload_n 2, 1) := by decide +kernel
theorem dX10_make_40 : decode cX10_make 40 = .ok (.invokevirtual 327, 3) := by decide +kernel
theorem dX10_make_43 : decode cX10_make 43 = .ok (.aload_n 0, 1) := by decide +kernel
theorem dX10_make_44 : decode cX10_make 44 = .ok (.getfield 143, 3) := by decide +kernel
theorem dX10_make_47 : decode cX10_make 47 = .ok (.iload_n 1, 1) := by decide +kernel
theorem dX10_make_48 : decode cX10_make 48 = .ok (.iload_n 2, 1) := by decide +kernel
theorem dX10_make_49 : decode cX10_make 49 = .ok (.iastore, 1) := by decide +kernel
theorem dX10_make_50 : decode cX10_make 50 = .ok (.aload_n 0, 1) := by decide +kernel
theorem dX10_make_51 : decode cX10_make 51 = .ok (.getfield 146, 3) := by decide +kernel
theorem dX10_make_54 : decode cX10_make 54 = .ok (.iload_n 1, 1) := by decide +kernel
theorem dX10_make_55 : decode cX10_make 55 = .ok (.aload_n 0, 1) := by decide +kernel
theorem dX10_make_56 : decode cX10_make 56 = .ok (.getfield 315, 3) := by decide +kernel
theorem dX10_make_59 : decode cX10_make 59 = .ok (.iastore, 1) := by decide +kernel
theorem dX10_make_60 : decode cX10_make 60 = .ok (.aload_n 0, 1) := by decide +kernel
theorem dX10_make_61 : decode cX10_make 61 = .ok (.getfield 149, 3) := by decide +kernel
theorem dX10_make_64 : decode cX10_make 64 = .ok (.iload_n 1, 1) := by decide +kernel
theorem dX10_make_65 : decode cX10_make 65 = .ok (.aload_n 0, 1) := by decide +kernel
theorem dX10_make_66 : decode cX10_make 66 = .ok (.getfield 318, 3) := by decide +kernel
theorem dX10_make_69 : decode cX10_make 69 = .ok (.iastore, 1) := by decide +kernel
theorem dX10_make_70 : decode cX10_make 70 = .ok (.aload_n 0, 1) := by decide +kernel
theorem dX10_make_71 : decode cX10_make 71 = .ok (.getfield 152, 3) := by decide +kernel
theorem dX10_make_74 : decode cX10_make 74 = .ok (.iload_n 1, 1) := by decide +kernel
theorem dX10_make_75 : decode cX10_make 75 = .ok (.aload_n 0, 1) := by decide +kernel
theorem dX10_make_76 : decode cX10_make 76 = .ok (.getfield 321, 3) := by decide +kernel
theorem dX10_make_79 : decode cX10_make 79 = .ok (.iastore, 1) := by decide +kernel
theorem dX10_make_80 : decode cX10_make 80 = .ok (.aload_n 0, 1) := by decide +kernel
theorem dX10_make_81 : decode cX10_make 81 = .ok (.getfield 125, 3) := by decide +kernel
theorem dX10_make_84 : decode cX10_make 84 = .ok (.iload_n 1, 1) := by decide +kernel
theorem dX10_make_85 : decode cX10_make 85 = .ok (.iaload, 1) := by decide +kernel
theorem dX10_make_86 : decode cX10_make 86 = .ok (.aload_n 0, 1) := by decide +kernel
theorem dX10_make_87 : decode cX10_make 87 = .ok (.getfield 128, 3) := by decide +kernel
theorem dX10_make_90 : decode cX10_make 90 = .ok (.iload_n 1, 1) := by decide +kernel
theorem dX10_make_91 : decode cX10_make 91 = .ok (.iaload, 1) := by decide +kernel
theorem dX10_make_92 : decode cX10_make 92 = .ok (.imul, 1) := by decide +kernel
theorem dX10_make_93 : decode cX10_make 93 = .ok (.ireturn, 1) := by decide +kernel
theorem dX10_isPlaced_0 : decode cX10_isPlaced 0 = .ok (.aload_n 0, 1) := by decide +kernel
theorem dX10_isPlaced_1 : decode cX10_isPlaced 1 = .ok (.getfield 171, 3) := by decide +kernel
theorem dX10_isPlaced_4 : decode cX10_isPlaced 4 = .ok (.istore_n 2, 1) := by decide +kernel
theorem dX10_isPlaced_5 : decode cX10_isPlaced 5 = .ok (.iconst 1, 1) := by decide +kernel
theorem dX10_isPlaced_6 : decode cX10_isPlaced 6 = .ok (.istore_n 3, 1) := by decide +kernel
theorem dX10_isPlaced_7 : decode cX10_isPlaced 7 = .ok (.iconst 0, 1) := by decide +kernel
theorem dX10_isPlaced_8 : decode cX10_isPlaced 8 = .ok (.istore 4, 2) := by decide +kernel
theorem dX10_isPlaced_10 : decode cX10_isPlaced 10 = .ok (.iload 4, 2) := by decide +kernel
theorem dX10_isPlaced_12 : decode cX10_isPlaced 12 = .ok (.iload_n 1, 1) := by decide +kernel
theorem dX10_isPlaced_13 : decode cX10_isPlaced 13 = .ok (.if_icmp .ge 76, 3) := by decide +kernel
theorem dX10_isPlaced_16 : decode cX10_isPlaced 16 = .ok (.iload_n 3, 1) := by decide +kernel
theorem dX10_isPlaced_17 : decode cX10_isPlaced 17 = .ok (.ifCond .eq 72, 3) := by decide +kernel
theorem dX10_isPlaced_20 : decode cX10_isPlaced 20 = .ok (.aload_n 0, 1) := by decide +kernel
theorem dX10_isPlaced_21 : decode cX10_isPlaced 21 = .ok (.aload_n 0, 1) := by decide +kernel
theorem dX10_isPlaced_22 : decode cX10_isPlaced 22 = .ok (.getfield 164, 3) := by decide +kernel
theorem dX10_isPlaced_25 : decode cX10_isPlaced 25 = .ok (.iload 4, 2) := by decide +kernel
theorem dX10_isPlaced_27 : decode cX10_isPlaced 27 = .ok (.iaload, 1) := by decide +kernel
theorem dX10_isPlaced_28 : decode cX10_isPlaced 28 = .ok (.invokevirtual 167, 3) := by decide +kernel
theorem dX10_isPlaced_31 : decode cX10_isPlaced 31 = .ok (.ifCond .eq 28, 3) := by decide +kernel
theorem dX10_isPlaced_34 : decode cX10_isPlaced 34 = .ok (.aload_n 0, 1) := by decide +kernel
theorem dX10_isPlaced_35 : decode cX10_isPlaced 35 = .ok (.aload_n 0, 1) := by decide +kernel
theorem dX10_isPlaced_36 : decode cX10_isPlaced 36 = .ok (.getfield 161, 3) := by decide +kernel
theorem dX10_isPlaced_39 : decode cX10_isPlaced 39 = .ok (.iload 4, 2) := by decide +kernel
theorem dX10_isPlaced_41 : decode cX10_isPlaced 41 = .ok (.iaload, 1) := by decide +kernel
theorem dX10_isPlaced_42 : decode cX10_isPlaced 42 = .ok (.aload_n 0, 1) := by decide +kernel
theorem dX10_isPlaced_43 : decode cX10_isPlaced 43 = .ok (.getfield 164, 3) := by decide +kernel
theorem dX10_isPlaced_46 : decode cX10_isPlaced 46 = .ok (.iload 4, 2) := by decide +kernel
theorem dX10_isPlaced_48 : decode cX10_isPlaced 48 = .ok (.iaload, 1) := by decide +kernel
theorem dX10_isPlaced_49 : decode cX10_isPlaced 49 = .ok (.invokevirtual 324, 3) := by decide +kernel
theorem dX10_isPlaced_52 : decode cX10_isPlaced 52 = .ok (.ifCond .eq 7, 3) := by decide +kernel
theorem dX10_isPlaced_55 : decode cX10_isPlaced 55 = .ok (.iconst 1, 1) := by decide +kernel
theorem dX10_isPlaced_56 : decode cX10_isPlaced 56 = .ok (.goto 4, 3) := by decide +kernel
theorem dX10_isPlaced_59 : decode cX10_isPlaced 59 = .ok (.iconst 0, 1) := by decide +kernel
theorem dX10_isPlaced_60 : decode cX10_isPlaced 60 = .ok (.istore_n 3, 1) := by decide +kernel
theorem dX10_isPlaced_61 : decode cX10_isPlaced 61 = .ok (.iload_n 3, 1) := by decide +kernel
theorem dX10_isPlaced_62 : decode cX10_isPlaced 62 = .ok (.ifCond .eq 21, 3) := by decide +kernel
theorem dX10_isPlaced_65 : decode cX10_isPlaced 65 = .ok (.aload_n 0, 1) := by decide +kernel
theorem dX10_isPlaced_66 : decode cX10_isPlaced 66 = .ok (.aload_n 0, 1) := by decide +kernel
theorem dX10_isPlaced_67 : decode cX10_isPlaced 67 = .ok (.getfield 161, 3) := by decide +kernel
theorem dX10_isPlaced_70 : decode cX10_isPlaced 70 = .ok (.iload 4, 2) := by decide +kernel
theorem dX10_isPlaced_72 : decode cX10_isPlaced 72 = .ok (.iaload, 1) := by decide +kernel
theorem dX10_isPlaced_73 : decode cX10_isPlaced 73 = .ok (.aload_n 0, 1) := by decide +kernel
theorem dX10_isPlaced_74 : decode cX10_isPlaced 74 = .ok (.getfield 164, 3) := by decide +kernel
theorem dX10_isPlaced_77 : decode cX10_isPlaced 77 = .ok (.iload 4, 2) := by decide +kernel
theorem dX10_isPlaced_79 : decode cX10_isPlaced 79 = .ok (.iaload, 1) := by decide +kernel
theorem dX10_isPlaced_80 : decode cX10_isPlaced 80 = .ok (.invokevirtual 327, 3) := by decide +kernel
theorem dX10_isPlaced_83 : decode cX10_isPlaced 83 = .ok (.iinc 4 1, 3) := by decide +kernel
theorem dX10_isPlaced_86 : decode cX10_isPlaced 86 = .ok (.goto (-76), 3) := by decide +kernel
theorem dX10_isPlaced_89 : decode cX10_isPlaced 89 = .ok (.aload_n 0, 1) := by decide +kernel
theorem dX10_isPlaced_90 : decode cX10_isPlaced 90 = .ok (.iload_n 2, 1) := by decide +kernel
theorem dX10_isPlaced_91 : decode cX10_isPlaced 91 = .ok (.putfield 171, 3) := by decide +kernel
theorem dX10_isPlaced_94 : decode cX10_isPlaced 94 = .ok (.iload_n 3, 1) := by decide +kernel
theorem dX10_isPlaced_95 : decode cX10_isPlaced 95 = .ok (.ireturn, 1) := by decide +kernel
theorem dX10_logsOf_0 : decode cX10_logsOf 0 = .ok (.iconst 0, 1) := by decide +kernel
theorem dX10_logsOf_1 : decode cX10_logsOf 1 = .ok (.istore_n 2, 1) := by decide +kernel
theorem dX10_logsOf_2 : decode cX10_logsOf 2 = .ok (.iconst 0, 1) := by decide +kernel
theorem dX10_logsOf_3 : decode cX10_logsOf 3 = .ok (.istore_n 3, 1) := by decide +kernel
theorem dX10_logsOf_4 : decode cX10_logsOf 4 = .ok (.iload_n 3, 1) := by decide +kernel
theorem dX10_logsOf_5 : decode cX10_logsOf 5 = .ok (.iload_n 1, 1) := by decide +kernel
theorem dX10_logsOf_6 : decode cX10_logsOf 6 = .ok (.if_icmp .ge 20, 3) := by decide +kernel
theorem dX10_logsOf_9 : decode cX10_logsOf 9 = .ok (.iload_n 2, 1) := by decide +kernel
theorem dX10_logsOf_10 : decode cX10_logsOf 10 = .ok (.iconst 1, 1) := by decide +kernel
theorem dX10_logsOf_11 : decode cX10_logsOf 11 = .ok (.aload_n 0, 1) := by decide +kernel
theorem dX10_logsOf_12 : decode cX10_logsOf 12 = .ok (.getfield 164, 3) := by decide +kernel
theorem dX10_logsOf_15 : decode cX10_logsOf 15 = .ok (.iload_n 3, 1) := by decide +kernel
theorem dX10_logsOf_16 : decode cX10_logsOf 16 = .ok (.iaload, 1) := by decide +kernel
theorem dX10_logsOf_17 : decode cX10_logsOf 17 = .ok (.ishl, 1) := by decide +kernel
theorem dX10_logsOf_18 : decode cX10_logsOf 18 = .ok (.ior, 1) := by decide +kernel
theorem dX10_logsOf_19 : decode cX10_logsOf 19 = .ok (.istore_n 2, 1) := by decide +kernel
theorem dX10_logsOf_20 : decode cX10_logsOf 20 = .ok (.iinc 3 1, 3) := by decide +kernel
theorem dX10_logsOf_23 : decode cX10_logsOf 23 = .ok (.goto (-19), 3) := by decide +kernel
theorem dX10_logsOf_26 : decode cX10_logsOf 26 = .ok (.iload_n 2, 1) := by decide +kernel
theorem dX10_logsOf_27 : decode cX10_logsOf 27 = .ok (.iconst 1, 1) := by decide +kernel
theorem dX10_logsOf_28 : decode cX10_logsOf 28 = .ok (.iand, 1) := by decide +kernel
theorem dX10_logsOf_29 : decode cX10_logsOf 29 = .ok (.iload_n 2, 1) := by decide +kernel
theorem dX10_logsOf_30 : decode cX10_logsOf 30 = .ok (.iconst 1, 1) := by decide +kernel
theorem dX10_logsOf_31 : decode cX10_logsOf 31 = .ok (.ishr, 1) := by decide +kernel
theorem dX10_logsOf_32 : decode cX10_logsOf 32 = .ok (.iconst 1, 1) := by decide +kernel
theorem dX10_logsOf_33 : decode cX10_logsOf 33 = .ok (.iand, 1) := by decide +kernel
theorem dX10_logsOf_34 : decode cX10_logsOf 34 = .ok (.iadd, 1) := by decide +kernel
theorem dX10_logsOf_35 : decode cX10_logsOf 35 = .ok (.iload_n 2, 1) := by decide +kernel
theorem dX10_logsOf_36 : decode cX10_logsOf 36 = .ok (.iconst 2, 1) := by decide +kernel
theorem dX10_logsOf_37 : decode cX10_logsOf 37 = .ok (.ishr, 1) := by decide +kernel
theorem dX10_logsOf_38 : decode cX10_logsOf 38 = .ok (.iconst 1, 1) := by decide +kernel
theorem dX10_logsOf_39 : decode cX10_logsOf 39 = .ok (.iand, 1) := by decide +kernel
theorem dX10_logsOf_40 : decode cX10_logsOf 40 = .ok (.iadd, 1) := by decide +kernel
theorem dX10_logsOf_41 : decode cX10_logsOf 41 = .ok (.ireturn, 1) := by decide +kernel
theorem dX10_plan_0 : decode cX10_plan 0 = .ok (.iconst 0, 1) := by decide +kernel
theorem dX10_plan_1 : decode cX10_plan 1 = .ok (.istore_n 1, 1) := by decide +kernel
theorem dX10_plan_2 : decode cX10_plan 2 = .ok (.iconst 0, 1) := by decide +kernel
theorem dX10_plan_3 : decode cX10_plan 3 = .ok (.istore_n 2, 1) := by decide +kernel
theorem dX10_plan_4 : decode cX10_plan 4 = .ok (.iload_n 2, 1) := by decide +kernel
theorem dX10_plan_5 : decode cX10_plan 5 = .ok (.bipush 8, 2) := by decide +kernel
theorem dX10_plan_7 : decode cX10_plan 7 = .ok (.if_icmp .ge 47, 3) := by decide +kernel
theorem dX10_plan_10 : decode cX10_plan 10 = .ok (.aload_n 0, 1) := by decide +kernel
theorem dX10_plan_11 : decode cX10_plan 11 = .ok (.iload_n 2, 1) := by decide +kernel
theorem dX10_plan_12 : decode cX10_plan 12 = .ok (.invokevirtual 276, 3) := by decide +kernel
theorem dX10_plan_15 : decode cX10_plan 15 = .ok (.ifCond .eq 33, 3) := by decide +kernel
theorem dX10_plan_18 : decode cX10_plan 18 = .ok (.aload_n 0, 1) := by decide +kernel
theorem dX10_plan_19 : decode cX10_plan 19 = .ok (.getfield 143, 3) := by decide +kernel
theorem dX10_plan_22 : decode cX10_plan 22 = .ok (.iload_n 2, 1) := by decide +kernel
theorem dX10_plan_23 : decode cX10_plan 23 = .ok (.iaload, 1) := by decide +kernel
theorem dX10_plan_24 : decode cX10_plan 24 = .ok (.iconst (-1), 1) := by decide +kernel
theorem dX10_plan_25 : decode cX10_plan 25 = .ok (.if_icmp .eq 6, 3) := by decide +kernel
theorem dX10_plan_28 : decode cX10_plan 28 = .ok (.goto 20, 3) := by decide +kernel
theorem dX10_plan_31 : decode cX10_plan 31 = .ok (.iload_n 1, 1) := by decide +kernel
theorem dX10_plan_32 : decode cX10_plan 32 = .ok (.iconst 3, 1) := by decide +kernel
theorem dX10_plan_33 : decode cX10_plan 33 = .ok (.if_icmp .ne 5, 3) := by decide +kernel
theorem dX10_plan_36 : decode cX10_plan 36 = .ok (.iconst (-1), 1) := by decide +kernel
theorem dX10_plan_37 : decode cX10_plan 37 = .ok (.ireturn, 1) := by decide +kernel
theorem dX10_plan_38 : decode cX10_plan 38 = .ok (.aload_n 0, 1) := by decide +kernel
theorem dX10_plan_39 : decode cX10_plan 39 = .ok (.getfield 161, 3) := by decide +kernel
theorem dX10_plan_42 : decode cX10_plan 42 = .ok (.iload_n 1, 1) := by decide +kernel
theorem dX10_plan_43 : decode cX10_plan 43 = .ok (.iload_n 2, 1) := by decide +kernel
theorem dX10_plan_44 : decode cX10_plan 44 = .ok (.iastore, 1) := by decide +kernel
theorem dX10_plan_45 : decode cX10_plan 45 = .ok (.iinc 1 1, 3) := by decide +kernel
theorem dX10_plan_48 : decode cX10_plan 48 = .ok (.iinc 2 1, 3) := by decide +kernel
theorem dX10_plan_51 : decode cX10_plan 51 = .ok (.goto (-47), 3) := by decide +kernel
theorem dX10_plan_54 : decode cX10_plan 54 = .ok (.iload_n 1, 1) := by decide +kernel
theorem dX10_plan_55 : decode cX10_plan 55 = .ok (.ifCond .ne 5, 3) := by decide +kernel
theorem dX10_plan_58 : decode cX10_plan 58 = .ok (.iconst (-1), 1) := by decide +kernel
theorem dX10_plan_59 : decode cX10_plan 59 = .ok (.ireturn, 1) := by decide +kernel
theorem dX10_plan_60 : decode cX10_plan 60 = .ok (.iload_n 1, 1) := by decide +kernel
theorem dX10_plan_61 : decode cX10_plan 61 = .ok (.iconst 1, 1) := by decide +kernel
theorem dX10_plan_62 : decode cX10_plan 62 = .ok (.if_icmp .ne 7, 3) := by decide +kernel
theorem dX10_plan_65 : decode cX10_plan 65 = .ok (.iconst 3, 1) := by decide +kernel
theorem dX10_plan_66 : decode cX10_plan 66 = .ok (.goto 15, 3) := by decide +kernel
theorem dX10_plan_69 : decode cX10_plan 69 = .ok (.iload_n 1, 1) := by decide +kernel
theorem dX10_plan_70 : decode cX10_plan 70 = .ok (.iconst 2, 1) := by decide +kernel
theorem dX10_plan_71 : decode cX10_plan 71 = .ok (.if_icmp .ne 8, 3) := by decide +kernel
theorem dX10_plan_74 : decode cX10_plan 74 = .ok (.bipush 9, 2) := by decide +kernel
theorem dX10_plan_76 : decode cX10_plan 76 = .ok (.goto 5, 3) := by decide +kernel
theorem dX10_plan_79 : decode cX10_plan 79 = .ok (.bipush 27, 2) := by decide +kernel
theorem dX10_plan_81 : decode cX10_plan 81 = .ok (.istore_n 2, 1) := by decide +kernel
theorem dX10_plan_82 : decode cX10_plan 82 = .ok (.iconst (-1), 1) := by decide +kernel
theorem dX10_plan_83 : decode cX10_plan 83 = .ok (.istore_n 3, 1) := by decide +kernel
theorem dX10_plan_84 : decode cX10_plan 84 = .ok (.iconst (-1), 1) := by decide +kernel
theorem dX10_plan_85 : decode cX10_plan 85 = .ok (.istore 4, 2) := by decide +kernel
theorem dX10_plan_87 : decode cX10_plan 87 = .ok (.iconst 0, 1) := by decide +kernel
theorem dX10_plan_88 : decode cX10_plan 88 = .ok (.istore 5, 2) := by decide +kernel
theorem dX10_plan_90 : decode cX10_plan 90 = .ok (.iload 5, 2) := by decide +kernel
theorem dX10_plan_92 : decode cX10_plan 92 = .ok (.iload_n 2, 1) := by decide +kernel
theorem dX10_plan_93 : decode cX10_plan 93 = .ok (.if_icmp .ge 81, 3) := by decide +kernel
theorem dX10_plan_96 : decode cX10_plan 96 = .ok (.iload 5, 2) := by decide +kernel
theorem dX10_plan_98 : decode cX10_plan 98 = .ok (.istore 6, 2) := by decide +kernel
theorem dX10_plan_100 : decode cX10_plan 100 = .ok (.iload_n 1, 1) := by decide +kernel
theorem dX10_plan_101 : decode cX10_plan 101 = .ok (.iconst 1, 1) := by decide +kernel
theorem dX10_plan_102 : decode cX10_plan 102 = .ok (.isub, 1) := by decide +kernel
theorem dX10_plan_103 : decode cX10_plan 103 = .ok (.istore 7, 2) := by decide +kernel
theorem dX10_plan_105 : decode cX10_plan 105 = .ok (.iload 7, 2) := by decide +kernel
theorem dX10_plan_107 : decode cX10_plan 107 = .ok (.ifCond .lt 26, 3) := by decide +kernel
theorem dX10_plan_110 : decode cX10_plan 110 = .ok (.aload_n 0, 1) := by decide +kernel
theorem dX10_plan_111 : decode cX10_plan 111 = .ok (.getfield 164, 3) := by decide +kernel
theorem dX10_plan_114 : decode cX10_plan 114 = .ok (.iload 7, 2) := by decide +kernel
theorem dX10_plan_116 : decode cX10_plan 116 = .ok (.iload 6, 2) := by decide +kernel
theorem dX10_plan_118 : decode cX10_plan 118 = .ok (.iconst 3, 1) := by decide +kernel
theorem dX10_plan_119 : decode cX10_plan 119 = .ok (.irem, 1) := by decide +kernel
theorem dX10_plan_120 : decode cX10_plan 120 = .ok (.iastore, 1) := by decide +kernel
theorem dX10_plan_121 : decode cX10_plan 121 = .ok (.iload 6, 2) := by decide +kernel
theorem dX10_plan_123 : decode cX10_plan 123 = .ok (.iconst 3, 1) := by decide +kernel
theorem dX10_plan_124 : decode cX10_plan 124 = .ok (.idiv, 1) := by decide +kernel
theorem dX10_plan_125 : decode cX10_plan 125 = .ok (.istore 6, 2) := by decide +kernel
theorem dX10_plan_127 : decode cX10_plan 127 = .ok (.iinc 7 (-1), 3) := by decide +kernel
theorem dX10_plan_130 : decode cX10_plan 130 = .ok (.goto (-25), 3) := by decide +kernel
theorem dX10_plan_133 : decode cX10_plan 133 = .ok (.iload_n 3, 1) := by decide +kernel
theorem dX10_plan_134 : decode cX10_plan 134 = .ok (.iconst (-1), 1) := by decide +kernel
theorem dX10_plan_135 : decode cX10_plan 135 = .ok (.if_icmp .eq 12, 3) := by decide +kernel
theorem dX10_plan_138 : decode cX10_plan 138 = .ok (.aload_n 0, 1) := by decide +kernel
theorem dX10_plan_139 : decode cX10_plan 139 = .ok (.iload_n 1, 1) := by decide +kernel
theorem dX10_plan_140 : decode cX10_plan 140 = .ok (.invokevirtual 330, 3) := by decide +kernel
theorem dX10_plan_143 : decode cX10_plan 143 = .ok (.iload_n 3, 1) := by decide +kernel
theorem dX10_plan_144 : decode cX10_plan 144 = .ok (.if_icmp .ge 24, 3) := by decide +kernel
theorem dX10_plan_147 : decode cX10_plan 147 = .ok (.aload_n 0, 1) := by decide +kernel
theorem dX10_plan_148 : decode cX10_plan 148 = .ok (.iload_n 1, 1) := by decide +kernel
theorem dX10_plan_149 : decode cX10_plan 149 = .ok (.invokevirtual 333, 3) := by decide +kernel
theorem dX10_plan_152 : decode cX10_plan 152 = .ok (.ifCond .ne 6, 3) := by decide +kernel
theorem dX10_plan_155 : decode cX10_plan 155 = .ok (.goto 13, 3) := by decide +kernel
theorem dX10_plan_158 : decode cX10_plan 158 = .ok (.aload_n 0, 1) := by decide +kernel
theorem dX10_plan_159 : decode cX10_plan 159 = .ok (.iload_n 1, 1) := by decide +kernel
theorem dX10_plan_160 : decode cX10_plan 160 = .ok (.invokevirtual 330, 3) := by decide +kernel
theorem dX10_plan_163 : decode cX10_plan 163 = .ok (.istore_n 3, 1) := by decide +kernel
theorem dX10_plan_164 : decode cX10_plan 164 = .ok (.iload 5, 2) := by decide +kernel
theorem dX10_plan_166 : decode cX10_plan 166 = .ok (.istore 4, 2) := by decide +kernel
theorem dX10_plan_168 : decode cX10_plan 168 = .ok (.iinc 5 1, 3) := by decide +kernel
theorem dX10_plan_171 : decode cX10_plan 171 = .ok (.goto (-81), 3) := by decide +kernel
theorem dX10_plan_174 : decode cX10_plan 174 = .ok (.iload_n 3, 1) := by decide +kernel
theorem dX10_plan_175 : decode cX10_plan 175 = .ok (.iconst (-1), 1) := by decide +kernel
theorem dX10_plan_176 : decode cX10_plan 176 = .ok (.if_icmp .ne 6, 3) := by decide +kernel
theorem dX10_plan_179 : decode cX10_plan 179 = .ok (.bipush (-2), 2) := by decide +kernel
theorem dX10_plan_181 : decode cX10_plan 181 = .ok (.ireturn, 1) := by decide +kernel
theorem dX10_plan_182 : decode cX10_plan 182 = .ok (.iconst 0, 1) := by decide +kernel
theorem dX10_plan_183 : decode cX10_plan 183 = .ok (.istore 5, 2) := by decide +kernel
theorem dX10_plan_185 : decode cX10_plan 185 = .ok (.iload 5, 2) := by decide +kernel
theorem dX10_plan_187 : decode cX10_plan 187 = .ok (.bipush 8, 2) := by decide +kernel
theorem dX10_plan_189 : decode cX10_plan 189 = .ok (.if_icmp .ge 17, 3) := by decide +kernel
theorem dX10_plan_192 : decode cX10_plan 192 = .ok (.aload_n 0, 1) := by decide +kernel
theorem dX10_plan_193 : decode cX10_plan 193 = .ok (.getfield 158, 3) := by decide +kernel
theorem dX10_plan_196 : decode cX10_plan 196 = .ok (.iload 5, 2) := by decide +kernel
theorem dX10_plan_198 : decode cX10_plan 198 = .ok (.iconst (-1), 1) := by decide +kernel
theorem dX10_plan_199 : decode cX10_plan 199 = .ok (.iastore, 1) := by decide +kernel
theorem dX10_plan_200 : decode cX10_plan 200 = .ok (.iinc 5 1, 3) := by decide +kernel
theorem dX10_plan_203 : decode cX10_plan 203 = .ok (.goto (-18), 3) := by decide +kernel
theorem dX10_plan_206 : decode cX10_plan 206 = .ok (.iload_n 1, 1) := by decide +kernel
theorem dX10_plan_207 : decode cX10_plan 207 = .ok (.iconst 1, 1) := by decide +kernel
theorem dX10_plan_208 : decode cX10_plan 208 = .ok (.isub, 1) := by decide +kernel
theorem dX10_plan_209 : decode cX10_plan 209 = .ok (.istore 5, 2) := by decide +kernel
theorem dX10_plan_211 : decode cX10_plan 211 = .ok (.iload 5, 2) := by decide +kernel
theorem dX10_plan_213 : decode cX10_plan 213 = .ok (.ifCond .lt 31, 3) := by decide +kernel
theorem dX10_plan_216 : decode cX10_plan 216 = .ok (.aload_n 0, 1) := by decide +kernel
theorem dX10_plan_217 : decode cX10_plan 217 = .ok (.getfield 158, 3) := by decide +kernel
theorem dX10_plan_220 : decode cX10_plan 220 = .ok (.aload_n 0, 1) := by decide +kernel
theorem dX10_plan_221 : decode cX10_plan 221 = .ok (.getfield 161, 3) := by decide +kernel
theorem dX10_plan_224 : decode cX10_plan 224 = .ok (.iload 5, 2) := by decide +kernel
theorem dX10_plan_226 : decode cX10_plan 226 = .ok (.iaload, 1) := by decide +kernel
theorem dX10_plan_227 : decode cX10_plan 227 = .ok (.iload 4, 2) := by decide +kernel
theorem dX10_plan_229 : decode cX10_plan 229 = .ok (.iconst 3, 1) := by decide +kernel
theorem dX10_plan_230 : decode cX10_plan 230 = .ok (.irem, 1) := by decide +kernel
theorem dX10_plan_231 : decode cX10_plan 231 = .ok (.iastore, 1) := by decide +kernel
theorem dX10_plan_232 : decode cX10_plan 232 = .ok (.iload 4, 2) := by decide +kernel
theorem dX10_plan_234 : decode cX10_plan 234 = .ok (.iconst 3, 1) := by decide +kernel
theorem dX10_plan_235 : decode cX10_plan 235 = .ok (.idiv, 1) := by decide +kernel
theorem dX10_plan_236 : decode cX10_plan 236 = .ok (.istore 4, 2) := by decide +kernel
theorem dX10_plan_238 : decode cX10_plan 238 = .ok (.iinc 5 (-1), 3) := by decide +kernel
theorem dX10_plan_241 : decode cX10_plan 241 = .ok (.goto (-30), 3) := by decide +kernel
theorem dX10_plan_244 : decode cX10_plan 244 = .ok (.aload_n 0, 1) := by decide +kernel
theorem dX10_plan_245 : decode cX10_plan 245 = .ok (.iconst 1, 1) := by decide +kernel
theorem dX10_plan_246 : decode cX10_plan 246 = .ok (.putfield 336, 3) := by decide +kernel
theorem dX10_plan_249 : decode cX10_plan 249 = .ok (.iload_n 3, 1) := by decide +kernel
theorem dX10_plan_250 : decode cX10_plan 250 = .ok (.ireturn, 1) := by decide +kernel
theorem dX10_planned_0 : decode cX10_planned 0 = .ok (.aload_n 0, 1) := by decide +kernel
theorem dX10_planned_1 : decode cX10_planned 1 = .ok (.getfield 336, 3) := by decide +kernel
theorem dX10_planned_4 : decode cX10_planned 4 = .ok (.ifCond .eq 22, 3) := by decide +kernel
theorem dX10_planned_7 : decode cX10_planned 7 = .ok (.iload_n 1, 1) := by decide +kernel
theorem dX10_planned_8 : decode cX10_planned 8 = .ok (.ifCond .lt 18, 3) := by decide +kernel
theorem dX10_planned_11 : decode cX10_planned 11 = .ok (.iload_n 1, 1) := by decide +kernel
theorem dX10_planned_12 : decode cX10_planned 12 = .ok (.bipush 8, 2) := by decide +kernel
theorem dX10_planned_14 : decode cX10_planned 14 = .ok (.if_icmp .ge 12, 3) := by decide +kernel
theorem dX10_planned_17 : decode cX10_planned 17 = .ok (.aload_n 0, 1) := by decide +kernel
theorem dX10_planned_18 : decode cX10_planned 18 = .ok (.getfield 158, 3) := by decide +kernel
theorem dX10_planned_21 : decode cX10_planned 21 = .ok (.iload_n 1, 1) := by decide +kernel
theorem dX10_planned_22 : decode cX10_planned 22 = .ok (.iaload, 1) := by decide +kernel
theorem dX10_planned_23 : decode cX10_planned 23 = .ok (.goto 4, 3) := by decide +kernel
theorem dX10_planned_26 : decode cX10_planned 26 = .ok (.iconst (-1), 1) := by decide +kernel
theorem dX10_planned_27 : decode cX10_planned 27 = .ok (.ireturn, 1) := by decide +kernel
theorem dX10_free_0 : decode cX10_free 0 = .ok (.aload_n 0, 1) := by decide +kernel
theorem dX10_free_1 : decode cX10_free 1 = .ok (.iload_n 1, 1) := by decide +kernel
theorem dX10_free_2 : decode cX10_free 2 = .ok (.invokevirtual 276, 3) := by decide +kernel
theorem dX10_free_5 : decode cX10_free 5 = .ok (.ifCond .eq 13, 3) := by decide +kernel
theorem dX10_free_8 : decode cX10_free 8 = .ok (.aload_n 0, 1) := by decide +kernel
theorem dX10_free_9 : decode cX10_free 9 = .ok (.getfield 143, 3) := by decide +kernel
theorem dX10_free_12 : decode cX10_free 12 = .ok (.iload_n 1, 1) := by decide +kernel
theorem dX10_free_13 : decode cX10_free 13 = .ok (.iaload, 1) := by decide +kernel
theorem dX10_free_14 : decode cX10_free 14 = .ok (.iconst (-1), 1) := by decide +kernel
theorem dX10_free_15 : decode cX10_free 15 = .ok (.if_icmp .ne 5, 3) := by decide +kernel
theorem dX10_free_18 : decode cX10_free 18 = .ok (.iconst 0, 1) := by decide +kernel
theorem dX10_free_19 : decode cX10_free 19 = .ok (.ireturn, 1) := by decide +kernel
theorem dX10_free_20 : decode cX10_free 20 = .ok (.aload_n 0, 1) := by decide +kernel
theorem dX10_free_21 : decode cX10_free 21 = .ok (.getfield 143, 3) := by decide +kernel
theorem dX10_free_24 : decode cX10_free 24 = .ok (.iload_n 1, 1) := by decide +kernel
theorem dX10_free_25 : decode cX10_free 25 = .ok (.iconst (-1), 1) := by decide +kernel
theorem dX10_free_26 : decode cX10_free 26 = .ok (.iastore, 1) := by decide +kernel
theorem dX10_free_27 : decode cX10_free 27 = .ok (.aload_n 0, 1) := by decide +kernel
theorem dX10_free_28 : decode cX10_free 28 = .ok (.iconst (-1), 1) := by decide +kernel
theorem dX10_free_29 : decode cX10_free 29 = .ok (.iload_n 1, 1) := by decide +kernel
theorem dX10_free_30 : decode cX10_free 30 = .ok (.invokevirtual 178, 3) := by decide +kernel
theorem dX10_free_33 : decode cX10_free 33 = .ok (.iconst 1, 1) := by decide +kernel
theorem dX10_free_34 : decode cX10_free 34 = .ok (.ireturn, 1) := by decide +kernel
