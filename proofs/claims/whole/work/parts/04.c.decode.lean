theorem dX5_midpointOf_96 : decode cX5_midpointOf 96 = .ok (.isub, 1) := by decide +kernel
theorem dX5_midpointOf_97 : decode cX5_midpointOf 97 = .ok (.iaload, 1) := by decide +kernel
theorem dX5_midpointOf_98 : decode cX5_midpointOf 98 = .ok (.aload_n 0, 1) := by decide +kernel
theorem dX5_midpointOf_99 : decode cX5_midpointOf 99 = .ok (.getfield 41, 3) := by decide +kernel
theorem dX5_midpointOf_102 : decode cX5_midpointOf 102 = .ok (.iload 4, 2) := by decide +kernel
theorem dX5_midpointOf_104 : decode cX5_midpointOf 104 = .ok (.iaload, 1) := by decide +kernel
theorem dX5_midpointOf_105 : decode cX5_midpointOf 105 = .ok (.if_icmp .le 45, 3) := by decide +kernel
theorem dX5_midpointOf_108 : decode cX5_midpointOf 108 = .ok (.aload_n 0, 1) := by decide +kernel
theorem dX5_midpointOf_109 : decode cX5_midpointOf 109 = .ok (.getfield 41, 3) := by decide +kernel
theorem dX5_midpointOf_112 : decode cX5_midpointOf 112 = .ok (.iload 4, 2) := by decide +kernel
theorem dX5_midpointOf_114 : decode cX5_midpointOf 114 = .ok (.iaload, 1) := by decide +kernel
theorem dX5_midpointOf_115 : decode cX5_midpointOf 115 = .ok (.istore 5, 2) := by decide +kernel
theorem dX5_midpointOf_117 : decode cX5_midpointOf 117 = .ok (.aload_n 0, 1) := by decide +kernel
theorem dX5_midpointOf_118 : decode cX5_midpointOf 118 = .ok (.getfield 41, 3) := by decide +kernel
theorem dX5_midpointOf_121 : decode cX5_midpointOf 121 = .ok (.iload 4, 2) := by decide +kernel
theorem dX5_midpointOf_123 : decode cX5_midpointOf 123 = .ok (.aload_n 0, 1) := by decide +kernel
theorem dX5_midpointOf_124 : decode cX5_midpointOf 124 = .ok (.getfield 41, 3) := by decide +kernel
theorem dX5_midpointOf_127 : decode cX5_midpointOf 127 = .ok (.iload 4, 2) := by decide +kernel
theorem dX5_midpointOf_129 : decode cX5_midpointOf 129 = .ok (.iconst 1, 1) := by decide +kernel
theorem dX5_midpointOf_130 : decode cX5_midpointOf 130 = .ok (.isub, 1) := by decide +kernel
theorem dX5_midpointOf_131 : decode cX5_midpointOf 131 = .ok (.iaload, 1) := by decide +kernel
theorem dX5_midpointOf_132 : decode cX5_midpointOf 132 = .ok (.iastore, 1) := by decide +kernel
theorem dX5_midpointOf_133 : decode cX5_midpointOf 133 = .ok (.aload_n 0, 1) := by decide +kernel
theorem dX5_midpointOf_134 : decode cX5_midpointOf 134 = .ok (.getfield 41, 3) := by decide +kernel
theorem dX5_midpointOf_137 : decode cX5_midpointOf 137 = .ok (.iload 4, 2) := by decide +kernel
theorem dX5_midpointOf_139 : decode cX5_midpointOf 139 = .ok (.iconst 1, 1) := by decide +kernel
theorem dX5_midpointOf_140 : decode cX5_midpointOf 140 = .ok (.isub, 1) := by decide +kernel
theorem dX5_midpointOf_141 : decode cX5_midpointOf 141 = .ok (.iload 5, 2) := by decide +kernel
theorem dX5_midpointOf_143 : decode cX5_midpointOf 143 = .ok (.iastore, 1) := by decide +kernel
theorem dX5_midpointOf_144 : decode cX5_midpointOf 144 = .ok (.iinc 4 (-1), 3) := by decide +kernel
theorem dX5_midpointOf_147 : decode cX5_midpointOf 147 = .ok (.goto (-63), 3) := by decide +kernel
theorem dX5_midpointOf_150 : decode cX5_midpointOf 150 = .ok (.iinc 3 1, 3) := by decide +kernel
theorem dX5_midpointOf_153 : decode cX5_midpointOf 153 = .ok (.goto (-77), 3) := by decide +kernel
theorem dX5_midpointOf_156 : decode cX5_midpointOf 156 = .ok (.iload_n 2, 1) := by decide +kernel
theorem dX5_midpointOf_157 : decode cX5_midpointOf 157 = .ok (.iconst 3, 1) := by decide +kernel
theorem dX5_midpointOf_158 : decode cX5_midpointOf 158 = .ok (.if_icmp .ge 7, 3) := by decide +kernel
theorem dX5_midpointOf_161 : decode cX5_midpointOf 161 = .ok (.iconst 0, 1) := by decide +kernel
theorem dX5_midpointOf_162 : decode cX5_midpointOf 162 = .ok (.goto 14, 3) := by decide +kernel
theorem dX5_midpointOf_165 : decode cX5_midpointOf 165 = .ok (.iload_n 2, 1) := by decide +kernel
theorem dX5_midpointOf_166 : decode cX5_midpointOf 166 = .ok (.bipush 8, 2) := by decide +kernel
theorem dX5_midpointOf_168 : decode cX5_midpointOf 168 = .ok (.if_icmp .ge 7, 3) := by decide +kernel
theorem dX5_midpointOf_171 : decode cX5_midpointOf 171 = .ok (.iconst 1, 1) := by decide +kernel
theorem dX5_midpointOf_172 : decode cX5_midpointOf 172 = .ok (.goto 4, 3) := by decide +kernel
theorem dX5_midpointOf_175 : decode cX5_midpointOf 175 = .ok (.iconst 2, 1) := by decide +kernel
theorem dX5_midpointOf_176 : decode cX5_midpointOf 176 = .ok (.istore_n 3, 1) := by decide +kernel
theorem dX5_midpointOf_177 : decode cX5_midpointOf 177 = .ok (.aload_n 0, 1) := by decide +kernel
theorem dX5_midpointOf_178 : decode cX5_midpointOf 178 = .ok (.getfield 41, 3) := by decide +kernel
theorem dX5_midpointOf_181 : decode cX5_midpointOf 181 = .ok (.iload_n 3, 1) := by decide +kernel
theorem dX5_midpointOf_182 : decode cX5_midpointOf 182 = .ok (.iaload, 1) := by decide +kernel
theorem dX5_midpointOf_183 : decode cX5_midpointOf 183 = .ok (.aload_n 0, 1) := by decide +kernel
theorem dX5_midpointOf_184 : decode cX5_midpointOf 184 = .ok (.getfield 41, 3) := by decide +kernel
theorem dX5_midpointOf_187 : decode cX5_midpointOf 187 = .ok (.iload_n 2, 1) := by decide +kernel
theorem dX5_midpointOf_188 : decode cX5_midpointOf 188 = .ok (.iconst 1, 1) := by decide +kernel
theorem dX5_midpointOf_189 : decode cX5_midpointOf 189 = .ok (.isub, 1) := by decide +kernel
theorem dX5_midpointOf_190 : decode cX5_midpointOf 190 = .ok (.iload_n 3, 1) := by decide +kernel
theorem dX5_midpointOf_191 : decode cX5_midpointOf 191 = .ok (.isub, 1) := by decide +kernel
theorem dX5_midpointOf_192 : decode cX5_midpointOf 192 = .ok (.iaload, 1) := by decide +kernel
theorem dX5_midpointOf_193 : decode cX5_midpointOf 193 = .ok (.iadd, 1) := by decide +kernel
theorem dX5_midpointOf_194 : decode cX5_midpointOf 194 = .ok (.iconst 2, 1) := by decide +kernel
theorem dX5_midpointOf_195 : decode cX5_midpointOf 195 = .ok (.idiv, 1) := by decide +kernel
theorem dX5_midpointOf_196 : decode cX5_midpointOf 196 = .ok (.ireturn, 1) := by decide +kernel
theorem dX5_correct_0 : decode cX5_correct 0 = .ok (.iconst 1, 1) := by decide +kernel
theorem dX5_correct_1 : decode cX5_correct 1 = .ok (.istore_n 1, 1) := by decide +kernel
theorem dX5_correct_2 : decode cX5_correct 2 = .ok (.iload_n 1, 1) := by decide +kernel
theorem dX5_correct_3 : decode cX5_correct 3 = .ok (.aload_n 0, 1) := by decide +kernel
theorem dX5_correct_4 : decode cX5_correct 4 = .ok (.getfield 71, 3) := by decide +kernel
theorem dX5_correct_7 : decode cX5_correct 7 = .ok (.if_icmp .gt 34, 3) := by decide +kernel
theorem dX5_correct_10 : decode cX5_correct 10 = .ok (.aload_n 0, 1) := by decide +kernel
theorem dX5_correct_11 : decode cX5_correct 11 = .ok (.getfield 38, 3) := by decide +kernel
theorem dX5_correct_14 : decode cX5_correct 14 = .ok (.iload_n 1, 1) := by decide +kernel
theorem dX5_correct_15 : decode cX5_correct 15 = .ok (.aload_n 0, 1) := by decide +kernel
theorem dX5_correct_16 : decode cX5_correct 16 = .ok (.getfield 7, 3) := by decide +kernel
theorem dX5_correct_19 : decode cX5_correct 19 = .ok (.iload_n 1, 1) := by decide +kernel
theorem dX5_correct_20 : decode cX5_correct 20 = .ok (.iaload, 1) := by decide +kernel
theorem dX5_correct_21 : decode cX5_correct 21 = .ok (.iconst 2, 1) := by decide +kernel
theorem dX5_correct_22 : decode cX5_correct 22 = .ok (.if_icmp .ne 11, 3) := by decide +kernel
theorem dX5_correct_25 : decode cX5_correct 25 = .ok (.aload_n 0, 1) := by decide +kernel
theorem dX5_correct_26 : decode cX5_correct 26 = .ok (.iload_n 1, 1) := by decide +kernel
theorem dX5_correct_27 : decode cX5_correct 27 = .ok (.invokevirtual 104, 3) := by decide +kernel
theorem dX5_correct_30 : decode cX5_correct 30 = .ok (.goto 4, 3) := by decide +kernel
theorem dX5_correct_33 : decode cX5_correct 33 = .ok (.iconst 0, 1) := by decide +kernel
theorem dX5_correct_34 : decode cX5_correct 34 = .ok (.iastore, 1) := by decide +kernel
theorem dX5_correct_35 : decode cX5_correct 35 = .ok (.iinc 1 1, 3) := by decide +kernel
theorem dX5_correct_38 : decode cX5_correct 38 = .ok (.goto (-36), 3) := by decide +kernel
theorem dX5_correct_41 : decode cX5_correct 41 = .ok (.iconst 1, 1) := by decide +kernel
theorem dX5_correct_42 : decode cX5_correct 42 = .ok (.istore_n 1, 1) := by decide +kernel
theorem dX5_correct_43 : decode cX5_correct 43 = .ok (.iload_n 1, 1) := by decide +kernel
theorem dX5_correct_44 : decode cX5_correct 44 = .ok (.aload_n 0, 1) := by decide +kernel
theorem dX5_correct_45 : decode cX5_correct 45 = .ok (.getfield 71, 3) := by decide +kernel
theorem dX5_correct_48 : decode cX5_correct 48 = .ok (.if_icmp .gt 196, 3) := by decide +kernel
theorem dX5_correct_51 : decode cX5_correct 51 = .ok (.aload_n 0, 1) := by decide +kernel
theorem dX5_correct_52 : decode cX5_correct 52 = .ok (.getfield 7, 3) := by decide +kernel
theorem dX5_correct_55 : decode cX5_correct 55 = .ok (.iload_n 1, 1) := by decide +kernel
theorem dX5_correct_56 : decode cX5_correct 56 = .ok (.iaload, 1) := by decide +kernel
theorem dX5_correct_57 : decode cX5_correct 57 = .ok (.iconst 2, 1) := by decide +kernel
theorem dX5_correct_58 : decode cX5_correct 58 = .ok (.if_icmp .ne 180, 3) := by decide +kernel
theorem dX5_correct_61 : decode cX5_correct 61 = .ok (.aload_n 0, 1) := by decide +kernel
theorem dX5_correct_62 : decode cX5_correct 62 = .ok (.getfield 29, 3) := by decide +kernel
theorem dX5_correct_65 : decode cX5_correct 65 = .ok (.iload_n 1, 1) := by decide +kernel
theorem dX5_correct_66 : decode cX5_correct 66 = .ok (.iaload, 1) := by decide +kernel
theorem dX5_correct_67 : decode cX5_correct 67 = .ok (.aload_n 0, 1) := by decide +kernel
theorem dX5_correct_68 : decode cX5_correct 68 = .ok (.getfield 97, 3) := by decide +kernel
theorem dX5_correct_71 : decode cX5_correct 71 = .ok (.iconst 1, 1) := by decide +kernel
theorem dX5_correct_72 : decode cX5_correct 72 = .ok (.isub, 1) := by decide +kernel
theorem dX5_correct_73 : decode cX5_correct 73 = .ok (.if_icmp .ne 12, 3) := by decide +kernel
theorem dX5_correct_76 : decode cX5_correct 76 = .ok (.aload_n 0, 1) := by decide +kernel
theorem dX5_correct_77 : decode cX5_correct 77 = .ok (.getfield 26, 3) := by decide +kernel
theorem dX5_correct_80 : decode cX5_correct 80 = .ok (.iload_n 1, 1) := by decide +kernel
theorem dX5_correct_81 : decode cX5_correct 81 = .ok (.iaload, 1) := by decide +kernel
theorem dX5_correct_82 : decode cX5_correct 82 = .ok (.goto 4, 3) := by decide +kernel
theorem dX5_correct_85 : decode cX5_correct 85 = .ok (.iconst 0, 1) := by decide +kernel
theorem dX5_correct_86 : decode cX5_correct 86 = .ok (.istore_n 2, 1) := by decide +kernel
theorem dX5_correct_87 : decode cX5_correct 87 = .ok (.aload_n 0, 1) := by decide +kernel
theorem dX5_correct_88 : decode cX5_correct 88 = .ok (.getfield 26, 3) := by decide +kernel
theorem dX5_correct_91 : decode cX5_correct 91 = .ok (.iload_n 1, 1) := by decide +kernel
theorem dX5_correct_92 : decode cX5_correct 92 = .ok (.aload_n 0, 1) := by decide +kernel
theorem dX5_correct_93 : decode cX5_correct 93 = .ok (.getfield 38, 3) := by decide +kernel
theorem dX5_correct_96 : decode cX5_correct 96 = .ok (.iload_n 1, 1) := by decide +kernel
theorem dX5_correct_97 : decode cX5_correct 97 = .ok (.iaload, 1) := by decide +kernel
theorem dX5_correct_98 : decode cX5_correct 98 = .ok (.iastore, 1) := by decide +kernel
theorem dX5_correct_99 : decode cX5_correct 99 = .ok (.aload_n 0, 1) := by decide +kernel
theorem dX5_correct_100 : decode cX5_correct 100 = .ok (.getfield 29, 3) := by decide +kernel
theorem dX5_correct_103 : decode cX5_correct 103 = .ok (.iload_n 1, 1) := by decide +kernel
theorem dX5_correct_104 : decode cX5_correct 104 = .ok (.aload_n 0, 1) := by decide +kernel
theorem dX5_correct_105 : decode cX5_correct 105 = .ok (.getfield 97, 3) := by decide +kernel
theorem dX5_correct_108 : decode cX5_correct 108 = .ok (.iastore, 1) := by decide +kernel
theorem dX5_correct_109 : decode cX5_correct 109 = .ok (.aload_n 0, 1) := by decide +kernel
theorem dX5_correct_110 : decode cX5_correct 110 = .ok (.getfield 38, 3) := by decide +kernel
theorem dX5_correct_113 : decode cX5_correct 113 = .ok (.iload_n 1, 1) := by decide +kernel
theorem dX5_correct_114 : decode cX5_correct 114 = .ok (.iaload, 1) := by decide +kernel
theorem dX5_correct_115 : decode cX5_correct 115 = .ok (.sipush 500, 3) := by decide +kernel
theorem dX5_correct_118 : decode cX5_correct 118 = .ok (.if_icmp .gt 15, 3) := by decide +kernel
theorem dX5_correct_121 : decode cX5_correct 121 = .ok (.aload_n 0, 1) := by decide +kernel
theorem dX5_correct_122 : decode cX5_correct 122 = .ok (.getfield 38, 3) := by decide +kernel
theorem dX5_correct_125 : decode cX5_correct 125 = .ok (.iload_n 1, 1) := by decide +kernel
theorem dX5_correct_126 : decode cX5_correct 126 = .ok (.iaload, 1) := by decide +kernel
theorem dX5_correct_127 : decode cX5_correct 127 = .ok (.sipush (-500), 3) := by decide +kernel
theorem dX5_correct_130 : decode cX5_correct 130 = .ok (.if_icmp .ge 13, 3) := by decide +kernel
theorem dX5_correct_133 : decode cX5_correct 133 = .ok (.aload_n 0, 1) := by decide +kernel
theorem dX5_correct_134 : decode cX5_correct 134 = .ok (.getfield 7, 3) := by decide +kernel
theorem dX5_correct_137 : decode cX5_correct 137 = .ok (.iload_n 1, 1) := by decide +kernel
theorem dX5_correct_138 : decode cX5_correct 138 = .ok (.iconst 4, 1) := by decide +kernel
theorem dX5_correct_139 : decode cX5_correct 139 = .ok (.iastore, 1) := by decide +kernel
theorem dX5_correct_140 : decode cX5_correct 140 = .ok (.goto 98, 3) := by decide +kernel
theorem dX5_correct_143 : decode cX5_correct 143 = .ok (.aload_n 0, 1) := by decide +kernel
theorem dX5_correct_144 : decode cX5_correct 144 = .ok (.getfield 17, 3) := by decide +kernel
theorem dX5_correct_147 : decode cX5_correct 147 = .ok (.iload_n 1, 1) := by decide +kernel
theorem dX5_correct_148 : decode cX5_correct 148 = .ok (.dup2, 1) := by decide +kernel
theorem dX5_correct_149 : decode cX5_correct 149 = .ok (.iaload, 1) := by decide +kernel
theorem dX5_correct_150 : decode cX5_correct 150 = .ok (.aload_n 0, 1) := by decide +kernel
theorem dX5_correct_151 : decode cX5_correct 151 = .ok (.getfield 38, 3) := by decide +kernel
theorem dX5_correct_154 : decode cX5_correct 154 = .ok (.iload_n 1, 1) := by decide +kernel
theorem dX5_correct_155 : decode cX5_correct 155 = .ok (.iaload, 1) := by decide +kernel
theorem dX5_correct_156 : decode cX5_correct 156 = .ok (.iadd, 1) := by decide +kernel
theorem dX5_correct_157 : decode cX5_correct 157 = .ok (.iastore, 1) := by decide +kernel
theorem dX5_correct_158 : decode cX5_correct 158 = .ok (.aload_n 0, 1) := by decide +kernel
theorem dX5_correct_159 : decode cX5_correct 159 = .ok (.getfield 97, 3) := by decide +kernel
theorem dX5_correct_162 : decode cX5_correct 162 = .ok (.iconst 2, 1) := by decide +kernel
theorem dX5_correct_163 : decode cX5_correct 163 = .ok (.irem, 1) := by decide +kernel
theorem dX5_correct_164 : decode cX5_correct 164 = .ok (.iconst 1, 1) := by decide +kernel
theorem dX5_correct_165 : decode cX5_correct 165 = .ok (.if_icmp .ne 22, 3) := by decide +kernel
theorem dX5_correct_168 : decode cX5_correct 168 = .ok (.aload_n 0, 1) := by decide +kernel
theorem dX5_correct_169 : decode cX5_correct 169 = .ok (.getfield 23, 3) := by decide +kernel
theorem dX5_correct_172 : decode cX5_correct 172 = .ok (.iload_n 1, 1) := by decide +kernel
theorem dX5_correct_173 : decode cX5_correct 173 = .ok (.dup2, 1) := by decide +kernel
theorem dX5_correct_174 : decode cX5_correct 174 = .ok (.iaload, 1) := by decide +kernel
theorem dX5_correct_175 : decode cX5_correct 175 = .ok (.aload_n 0, 1) := by decide +kernel
theorem dX5_correct_176 : decode cX5_correct 176 = .ok (.getfield 38, 3) := by decide +kernel
theorem dX5_correct_179 : decode cX5_correct 179 = .ok (.iload_n 1, 1) := by decide +kernel
theorem dX5_correct_180 : decode cX5_correct 180 = .ok (.iaload, 1) := by decide +kernel
theorem dX5_correct_181 : decode cX5_correct 181 = .ok (.iload_n 2, 1) := by decide +kernel
theorem dX5_correct_182 : decode cX5_correct 182 = .ok (.iadd, 1) := by decide +kernel
theorem dX5_correct_183 : decode cX5_correct 183 = .ok (.iconst 4, 1) := by decide +kernel
theorem dX5_correct_184 : decode cX5_correct 184 = .ok (.idiv, 1) := by decide +kernel
theorem dX5_correct_185 : decode cX5_correct 185 = .ok (.iadd, 1) := by decide +kernel
theorem dX5_correct_186 : decode cX5_correct 186 = .ok (.iastore, 1) := by decide +kernel
theorem dX5_correct_187 : decode cX5_correct 187 = .ok (.aload_n 0, 1) := by decide +kernel
theorem dX5_correct_188 : decode cX5_correct 188 = .ok (.getfield 23, 3) := by decide +kernel
theorem dX5_correct_191 : decode cX5_correct 191 = .ok (.iload_n 1, 1) := by decide +kernel
theorem dX5_correct_192 : decode cX5_correct 192 = .ok (.iaload, 1) := by decide +kernel
theorem dX5_correct_193 : decode cX5_correct 193 = .ok (.bipush 100, 2) := by decide +kernel
theorem dX5_correct_195 : decode cX5_correct 195 = .ok (.if_icmp .gt 14, 3) := by decide +kernel
theorem dX5_correct_198 : decode cX5_correct 198 = .ok (.aload_n 0, 1) := by decide +kernel
theorem dX5_correct_199 : decode cX5_correct 199 = .ok (.getfield 23, 3) := by decide +kernel
theorem dX5_correct_202 : decode cX5_correct 202 = .ok (.iload_n 1, 1) := by decide +kernel
theorem dX5_correct_203 : decode cX5_correct 203 = .ok (.iaload, 1) := by decide +kernel
theorem dX5_correct_204 : decode cX5_correct 204 = .ok (.bipush (-100), 2) := by decide +kernel
theorem dX5_correct_206 : decode cX5_correct 206 = .ok (.if_icmp .ge 32, 3) := by decide +kernel
theorem dX5_correct_209 : decode cX5_correct 209 = .ok (.aload_n 0, 1) := by decide +kernel
theorem dX5_correct_210 : decode cX5_correct 210 = .ok (.getfield 23, 3) := by decide +kernel
theorem dX5_correct_213 : decode cX5_correct 213 = .ok (.iload_n 1, 1) := by decide +kernel
theorem dX5_correct_214 : decode cX5_correct 214 = .ok (.aload_n 0, 1) := by decide +kernel
theorem dX5_correct_215 : decode cX5_correct 215 = .ok (.getfield 23, 3) := by decide +kernel
theorem dX5_correct_218 : decode cX5_correct 218 = .ok (.iload_n 1, 1) := by decide +kernel
theorem dX5_correct_219 : decode cX5_correct 219 = .ok (.iaload, 1) := by decide +kernel
theorem dX5_correct_220 : decode cX5_correct 220 = .ok (.ifCond .le 8, 3) := by decide +kernel
theorem dX5_correct_223 : decode cX5_correct 223 = .ok (.bipush 100, 2) := by decide +kernel
theorem dX5_correct_225 : decode cX5_correct 225 = .ok (.goto 5, 3) := by decide +kernel
theorem dX5_correct_228 : decode cX5_correct 228 = .ok (.bipush (-100), 2) := by decide +kernel
theorem dX5_correct_230 : decode cX5_correct 230 = .ok (.iastore, 1) := by decide +kernel
theorem dX5_correct_231 : decode cX5_correct 231 = .ok (.aload_n 0, 1) := by decide +kernel
theorem dX5_correct_232 : decode cX5_correct 232 = .ok (.getfield 7, 3) := by decide +kernel
theorem dX5_correct_235 : decode cX5_correct 235 = .ok (.iload_n 1, 1) := by decide +kernel
theorem dX5_correct_236 : decode cX5_correct 236 = .ok (.iconst 3, 1) := by decide +kernel
theorem dX5_correct_237 : decode cX5_correct 237 = .ok (.iastore, 1) := by decide +kernel
theorem dX5_correct_238 : decode cX5_correct 238 = .ok (.iinc 1 1, 3) := by decide +kernel
theorem dX5_correct_241 : decode cX5_correct 241 = .ok (.goto (-198), 3) := by decide +kernel
theorem dX5_correct_244 : decode cX5_correct 244 = .ok (.return_, 1) := by decide +kernel
theorem dX5_run_0 : decode cX5_run 0 = .ok (.aload_n 0, 1) := by decide +kernel
theorem dX5_run_1 : decode cX5_run 1 = .ok (.iconst 0, 1) := by decide +kernel
theorem dX5_run_2 : decode cX5_run 2 = .ok (.putfield 81, 3) := by decide +kernel
theorem dX5_run_5 : decode cX5_run 5 = .ok (.iload_n 1, 1) := by decide +kernel
theorem dX5_run_6 : decode cX5_run 6 = .ok (.ifCond .lt 10, 3) := by decide +kernel
theorem dX5_run_9 : decode cX5_run 9 = .ok (.iload_n 1, 1) := by decide +kernel
theorem dX5_run_10 : decode cX5_run 10 = .ok (.sipush 500, 3) := by decide +kernel
theorem dX5_run_13 : decode cX5_run 13 = .ok (.if_icmp .le 6, 3) := by decide +kernel
theorem dX5_run_16 : decode cX5_run 16 = .ok (.bipush (-2), 2) := by decide +kernel
theorem dX5_run_18 : decode cX5_run 18 = .ok (.ireturn, 1) := by decide +kernel
theorem dX5_run_19 : decode cX5_run 19 = .ok (.iconst 0, 1) := by decide +kernel
theorem dX5_run_20 : decode cX5_run 20 = .ok (.istore_n 2, 1) := by decide +kernel
theorem dX5_run_21 : decode cX5_run 21 = .ok (.iconst 0, 1) := by decide +kernel
theorem dX5_run_22 : decode cX5_run 22 = .ok (.istore_n 3, 1) := by decide +kernel
theorem dX5_run_23 : decode cX5_run 23 = .ok (.iload_n 3, 1) := by decide +kernel
theorem dX5_run_24 : decode cX5_run 24 = .ok (.iload_n 1, 1) := by decide +kernel
theorem dX5_run_25 : decode cX5_run 25 = .ok (.if_icmp .ge 125, 3) := by decide +kernel
theorem dX5_run_28 : decode cX5_run 28 = .ok (.aload_n 0, 1) := by decide +kernel
theorem dX5_run_29 : decode cX5_run 29 = .ok (.invokevirtual 107, 3) := by decide +kernel
theorem dX5_run_32 : decode cX5_run 32 = .ok (.iload_n 2, 1) := by decide +kernel
theorem dX5_run_33 : decode cX5_run 33 = .ok (.aload_n 0, 1) := by decide +kernel
theorem dX5_run_34 : decode cX5_run 34 = .ok (.invokevirtual 110, 3) := by decide +kernel
theorem dX5_run_37 : decode cX5_run 37 = .ok (.iadd, 1) := by decide +kernel
theorem dX5_run_38 : decode cX5_run 38 = .ok (.istore_n 2, 1) := by decide +kernel
theorem dX5_run_39 : decode cX5_run 39 = .ok (.iload_n 2, 1) := by decide +kernel
theorem dX5_run_40 : decode cX5_run 40 = .ok (.aload_n 0, 1) := by decide +kernel
theorem dX5_run_41 : decode cX5_run 41 = .ok (.invokevirtual 114, 3) := by decide +kernel
theorem dX5_run_44 : decode cX5_run 44 = .ok (.iadd, 1) := by decide +kernel
theorem dX5_run_45 : decode cX5_run 45 = .ok (.istore_n 2, 1) := by decide +kernel
theorem dX5_run_46 : decode cX5_run 46 = .ok (.aload_n 0, 1) := by decide +kernel
theorem dX5_run_47 : decode cX5_run 47 = .ok (.invokevirtual 117, 3) := by decide +kernel
theorem dX5_run_50 : decode cX5_run 50 = .ok (.iconst 1, 1) := by decide +kernel
theorem dX5_run_51 : decode cX5_run 51 = .ok (.istore 4, 2) := by decide +kernel
theorem dX5_run_53 : decode cX5_run 53 = .ok (.iload 4, 2) := by decide +kernel
theorem dX5_run_55 : decode cX5_run 55 = .ok (.aload_n 0, 1) := by decide +kernel
theorem dX5_run_56 : decode cX5_run 56 = .ok (.getfield 71, 3) := by decide +kernel
theorem dX5_run_59 : decode cX5_run 59 = .ok (.if_icmp .gt 49, 3) := by decide +kernel
theorem dX5_run_62 : decode cX5_run 62 = .ok (.aload_n 0, 1) := by decide +kernel
theorem dX5_run_63 : decode cX5_run 63 = .ok (.getfield 17, 3) := by decide +kernel
theorem dX5_run_66 : decode cX5_run 66 = .ok (.iload 4, 2) := by decide +kernel
theorem dX5_run_68 : decode cX5_run 68 = .ok (.dup2, 1) := by decide +kernel
theorem dX5_run_69 : decode cX5_run 69 = .ok (.iaload, 1) := by decide +kernel
theorem dX5_run_70 : decode cX5_run 70 = .ok (.aload_n 0, 1) := by decide +kernel
theorem dX5_run_71 : decode cX5_run 71 = .ok (.getfield 7, 3) := by decide +kernel
theorem dX5_run_74 : decode cX5_run 74 = .ok (.iload 4, 2) := by decide +kernel
theorem dX5_run_76 : decode cX5_run 76 = .ok (.iaload, 1) := by decide +kernel
theorem dX5_run_77 : decode cX5_run 77 = .ok (.iconst 4, 1) := by decide +kernel
theorem dX5_run_78 : decode cX5_run 78 = .ok (.if_icmp .ne 7, 3) := by decide +kernel
theorem dX5_run_81 : decode cX5_run 81 = .ok (.iconst 0, 1) := by decide +kernel
theorem dX5_run_82 : decode cX5_run 82 = .ok (.goto 18, 3) := by decide +kernel
theorem dX5_run_85 : decode cX5_run 85 = .ok (.aload_n 0, 1) := by decide +kernel
theorem dX5_run_86 : decode cX5_run 86 = .ok (.getfield 20, 3) := by decide +kernel
theorem dX5_run_89 : decode cX5_run 89 = .ok (.iload 4, 2) := by decide +kernel
theorem dX5_run_91 : decode cX5_run 91 = .ok (.iaload, 1) := by decide +kernel
theorem dX5_run_92 : decode cX5_run 92 = .ok (.aload_n 0, 1) := by decide +kernel
theorem dX5_run_93 : decode cX5_run 93 = .ok (.getfield 23, 3) := by decide +kernel
theorem dX5_run_96 : decode cX5_run 96 = .ok (.iload 4, 2) := by decide +kernel
theorem dX5_run_98 : decode cX5_run 98 = .ok (.iaload, 1) := by decide +kernel
theorem dX5_run_99 : decode cX5_run 99 = .ok (.iadd, 1) := by decide +kernel
theorem dX5_run_100 : decode cX5_run 100 = .ok (.iadd, 1) := by decide +kernel
theorem dX5_run_101 : decode cX5_run 101 = .ok (.iastore, 1) := by decide +kernel
theorem dX5_run_102 : decode cX5_run 102 = .ok (.iinc 4 1, 3) := by decide +kernel
theorem dX5_run_105 : decode cX5_run 105 = .ok (.goto (-52), 3) := by decide +kernel
theorem dX5_run_108 : decode cX5_run 108 = .ok (.iconst 0, 1) := by decide +kernel
theorem dX5_run_109 : decode cX5_run 109 = .ok (.istore 4, 2) := by decide +kernel
theorem dX5_run_111 : decode cX5_run 111 = .ok (.iload 4, 2) := by decide +kernel
theorem dX5_run_113 : decode cX5_run 113 = .ok (.aload_n 0, 1) := by decide +kernel
theorem dX5_run_114 : decode cX5_run 114 = .ok (.getfield 75, 3) := by decide +kernel
theorem dX5_run_117 : decode cX5_run 117 = .ok (.if_icmp .ge 17, 3) := by decide +kernel
theorem dX5_run_120 : decode cX5_run 120 = .ok (.aload_n 0, 1) := by decide +kernel
theorem dX5_run_121 : decode cX5_run 121 = .ok (.getfield 68, 3) := by decide +kernel
theorem dX5_run_124 : decode cX5_run 124 = .ok (.iload 4, 2) := by decide +kernel
theorem dX5_run_126 : decode cX5_run 126 = .ok (.iconst 0, 1) := by decide +kernel
theorem dX5_run_127 : decode cX5_run 127 = .ok (.iastore, 1) := by decide +kernel
theorem dX5_run_128 : decode cX5_run 128 = .ok (.iinc 4 1, 3) := by decide +kernel
theorem dX5_run_131 : decode cX5_run 131 = .ok (.goto (-20), 3) := by decide +kernel
theorem dX5_run_134 : decode cX5_run 134 = .ok (.aload_n 0, 1) := by decide +kernel
theorem dX5_run_135 : decode cX5_run 135 = .ok (.dup, 1) := by decide +kernel
theorem dX5_run_136 : decode cX5_run 136 = .ok (.getfield 97, 3) := by decide +kernel
theorem dX5_run_139 : decode cX5_run 139 = .ok (.iconst 1, 1) := by decide +kernel
theorem dX5_run_140 : decode cX5_run 140 = .ok (.iadd, 1) := by decide +kernel
theorem dX5_run_141 : decode cX5_run 141 = .ok (.putfield 97, 3) := by decide +kernel
theorem dX5_run_144 : decode cX5_run 144 = .ok (.iinc 3 1, 3) := by decide +kernel
theorem dX5_run_147 : decode cX5_run 147 = .ok (.goto (-124), 3) := by decide +kernel
theorem dX5_run_150 : decode cX5_run 150 = .ok (.iload_n 2, 1) := by decide +kernel
theorem dX5_run_151 : decode cX5_run 151 = .ok (.ireturn, 1) := by decide +kernel
theorem dX5_state_0 : decode cX5_state 0 = .ok (.aload_n 0, 1) := by decide +kernel
theorem dX5_state_1 : decode cX5_state 1 = .ok (.iconst 0, 1) := by decide +kernel
theorem dX5_state_2 : decode cX5_state 2 = .ok (.putfield 81, 3) := by decide +kernel
theorem dX5_state_5 : decode cX5_state 5 = .ok (.aload_n 0, 1) := by decide +kernel
theorem dX5_state_6 : decode cX5_state 6 = .ok (.iload_n 1, 1) := by decide +kernel
theorem dX5_state_7 : decode cX5_state 7 = .ok (.invokevirtual 84, 3) := by decide +kernel
theorem dX5_state_10 : decode cX5_state 10 = .ok (.ifCond .eq 12, 3) := by decide +kernel
theorem dX5_state_13 : decode cX5_state 13 = .ok (.aload_n 0, 1) := by decide +kernel
theorem dX5_state_14 : decode cX5_state 14 = .ok (.getfield 7, 3) := by decide +kernel
theorem dX5_state_17 : decode cX5_state 17 = .ok (.iload_n 1, 1) := by decide +kernel
theorem dX5_state_18 : decode cX5_state 18 = .ok (.iaload, 1) := by decide +kernel
theorem dX5_state_19 : decode cX5_state 19 = .ok (.goto 4, 3) := by decide +kernel
theorem dX5_state_22 : decode cX5_state 22 = .ok (.iconst (-1), 1) := by decide +kernel
theorem dX5_state_23 : decode cX5_state 23 = .ok (.ireturn, 1) := by decide +kernel
theorem dX5_offset_0 : decode cX5_offset 0 = .ok (.aload_n 0, 1) := by decide +kernel
theorem dX5_offset_1 : decode cX5_offset 1 = .ok (.iconst 0, 1) := by decide +kernel
theorem dX5_offset_2 : decode cX5_offset 2 = .ok (.putfield 81, 3) := by decide +kernel
theorem dX5_offset_5 : decode cX5_offset 5 = .ok (.aload_n 0, 1) := by decide +kernel
theorem dX5_offset_6 : decode cX5_offset 6 = .ok (.iload_n 1, 1) := by decide +kernel
theorem dX5_offset_7 : decode cX5_offset 7 = .ok (.invokevirtual 84, 3) := by decide +kernel
theorem dX5_offset_10 : decode cX5_offset 10 = .ok (.ifCond .eq 12, 3) := by decide +kernel
theorem dX5_offset_13 : decode cX5_offset 13 = .ok (.aload_n 0, 1) := by decide +kernel
theorem dX5_offset_14 : decode cX5_offset 14 = .ok (.getfield 17, 3) := by decide +kernel
theorem dX5_offset_17 : decode cX5_offset 17 = .ok (.iload_n 1, 1) := by decide +kernel
theorem dX5_offset_18 : decode cX5_offset 18 = .ok (.iaload, 1) := by decide +kernel
theorem dX5_offset_19 : decode cX5_offset 19 = .ok (.goto 4, 3) := by decide +kernel
theorem dX5_offset_22 : decode cX5_offset 22 = .ok (.iconst 0, 1) := by decide +kernel
theorem dX5_offset_23 : decode cX5_offset 23 = .ok (.ireturn, 1) := by decide +kernel
theorem dX5_rate_0 : decode cX5_rate 0 = .ok (.aload_n 0, 1) := by decide +kernel
theorem dX5_rate_1 : decode cX5_rate 1 = .ok (.iconst 0, 1) := by decide +kernel
theorem dX5_rate_2 : decode cX5_rate 2 = .ok (.putfield 81, 3) := by decide +kernel
theorem dX5_rate_5 : decode cX5_rate 5 = .ok (.aload_n 0, 1) := by decide +kernel
theorem dX5_rate_6 : decode cX5_rate 6 = .ok (.iload_n 1, 1) := by decide +kernel
theorem dX5_rate_7 : decode cX5_rate 7 = .ok (.invokevirtual 84, 3) := by decide +kernel
theorem dX5_rate_10 : decode cX5_rate 10 = .ok (.ifCond .eq 12, 3) := by decide +kernel
theorem dX5_rate_13 : decode cX5_rate 13 = .ok (.aload_n 0, 1) := by decide +kernel
theorem dX5_rate_14 : decode cX5_rate 14 = .ok (.getfield 23, 3) := by decide +kernel
theorem dX5_rate_17 : decode cX5_rate 17 = .ok (.iload_n 1, 1) := by decide +kernel
theorem dX5_rate_18 : decode cX5_rate 18 = .ok (.iaload, 1) := by decide +kernel
theorem dX5_rate_19 : decode cX5_rate 19 = .ok (.goto 4, 3) := by decide +kernel
theorem dX5_rate_22 : decode cX5_rate 22 = .ok (.iconst 0, 1) := by decide +kernel
theorem dX5_rate_23 : decode cX5_rate 23 = .ok (.ireturn, 1) := by decide +kernel
theorem dX5_place_0 : decode cX5_place 0 = .ok (.aload_n 0, 1) := by decide +kernel
theorem dX5_place_1 : decode cX5_place 1 = .ok (.aload_n 0, 1) := by decide +kernel
theorem dX5_place_2 : decode cX5_place 2 = .ok (.iload_n 1, 1) := by decide +kernel
theorem dX5_place_3 : decode cX5_place 3 = .ok (.invokevirtual 88, 3) := by decide +kernel
theorem dX5_place_6 : decode cX5_place 6 = .ok (.ifCond .eq 13, 3) := by decide +kernel
theorem dX5_place_9 : decode cX5_place 9 = .ok (.iload_n 2, 1) := by decide +kernel
theorem dX5_place_10 : decode cX5_place 10 = .ok (.ifCond .lt 9, 3) := by decide +kernel
theorem dX5_place_13 : decode cX5_place 13 = .ok (.iload_n 2, 1) := by decide +kernel
theorem dX5_place_14 : decode cX5_place 14 = .ok (.bipush 63, 2) := by decide +kernel
theorem dX5_place_16 : decode cX5_place 16 = .ok (.if_icmp .le 7, 3) := by decide +kernel
theorem dX5_place_19 : decode cX5_place 19 = .ok (.iconst 1, 1) := by decide +kernel
theorem dX5_place_20 : decode cX5_place 20 = .ok (.goto 4, 3) := by decide +kernel
theorem dX5_place_23 : decode cX5_place 23 = .ok (.iconst 0, 1) := by decide +kernel
theorem dX5_place_24 : decode cX5_place 24 = .ok (.putfield 81, 3) := by decide +kernel
theorem dX5_place_27 : decode cX5_place 27 = .ok (.iconst 0, 1) := by decide +kernel
theorem dX5_place_28 : decode cX5_place 28 = .ok (.istore_n 3, 1) := by decide +kernel
theorem dX5_place_29 : decode cX5_place 29 = .ok (.iconst 0, 1) := by decide +kernel
theorem dX5_place_30 : decode cX5_place 30 = .ok (.istore 4, 2) := by decide +kernel
theorem dX5_place_32 : decode cX5_place 32 = .ok (.iconst 0, 1) := by decide +kernel
theorem dX5_place_33 : decode cX5_place 33 = .ok (.istore 5, 2) := by decide +kernel
theorem dX5_place_35 : decode cX5_place 35 = .ok (.iload 5, 2) := by decide +kernel
theorem dX5_place_37 : decode cX5_place 37 = .ok (.aload_n 0, 1) := by decide +kernel
theorem dX5_place_38 : decode cX5_place 38 = .ok (.getfield 91, 3) := by decide +kernel
theorem dX5_place_41 : decode cX5_place 41 = .ok (.if_icmp .ge 113, 3) := by decide +kernel
theorem dX5_place_44 : decode cX5_place 44 = .ok (.aload_n 0, 1) := by decide +kernel
theorem dX5_place_45 : decode cX5_place 45 = .ok (.getfield 81, 3) := by decide +kernel
theorem dX5_place_48 : decode cX5_place 48 = .ok (.ifCond .ne 106, 3) := by decide +kernel
theorem dX5_place_51 : decode cX5_place 51 = .ok (.aload_n 0, 1) := by decide +kernel
theorem dX5_place_52 : decode cX5_place 52 = .ok (.getfield 47, 3) := by decide +kernel
theorem dX5_place_55 : decode cX5_place 55 = .ok (.iload 5, 2) := by decide +kernel
theorem dX5_place_57 : decode cX5_place 57 = .ok (.iaload, 1) := by decide +kernel
theorem dX5_place_58 : decode cX5_place 58 = .ok (.iload_n 1, 1) := by decide +kernel
theorem dX5_place_59 : decode cX5_place 59 = .ok (.if_icmp .ne 26, 3) := by decide +kernel
theorem dX5_place_62 : decode cX5_place 62 = .ok (.iload_n 2, 1) := by decide +kernel
theorem dX5_place_63 : decode cX5_place 63 = .ok (.aload_n 0, 1) := by decide +kernel
theorem dX5_place_64 : decode cX5_place 64 = .ok (.getfield 56, 3) := by decide +kernel
theorem dX5_place_67 : decode cX5_place 67 = .ok (.iload 5, 2) := by decide +kernel
theorem dX5_place_69 : decode cX5_place 69 = .ok (.iaload, 1) := by decide +kernel
theorem dX5_place_70 : decode cX5_place 70 = .ok (.irem, 1) := by decide +kernel
theorem dX5_place_71 : decode cX5_place 71 = .ok (.aload_n 0, 1) := by decide +kernel
theorem dX5_place_72 : decode cX5_place 72 = .ok (.getfield 53, 3) := by decide +kernel
theorem dX5_place_75 : decode cX5_place 75 = .ok (.iload 5, 2) := by decide +kernel
theorem dX5_place_77 : decode cX5_place 77 = .ok (.iaload, 1) := by decide +kernel
theorem dX5_place_78 : decode cX5_place 78 = .ok (.if_icmp .ne 7, 3) := by decide +kernel
theorem dX5_place_81 : decode cX5_place 81 = .ok (.iconst 1, 1) := by decide +kernel
theorem dX5_place_82 : decode cX5_place 82 = .ok (.goto 4, 3) := by decide +kernel
theorem dX5_place_85 : decode cX5_place 85 = .ok (.iconst 0, 1) := by decide +kernel
theorem dX5_place_86 : decode cX5_place 86 = .ok (.istore 6, 2) := by decide +kernel
theorem dX5_place_88 : decode cX5_place 88 = .ok (.iload 6, 2) := by decide +kernel
theorem dX5_place_90 : decode cX5_place 90 = .ok (.ifCond .eq 25, 3) := by decide +kernel
theorem dX5_place_93 : decode cX5_place 93 = .ok (.aload_n 0, 1) := by decide +kernel
theorem dX5_place_94 : decode cX5_place 94 = .ok (.getfield 50, 3) := by decide +kernel
theorem dX5_place_97 : decode cX5_place 97 = .ok (.iload 5, 2) := by decide +kernel
theorem dX5_place_99 : decode cX5_place 99 = .ok (.iaload, 1) := by decide +kernel
theorem dX5_place_100 : decode cX5_place 100 = .ok (.iconst 1, 1) := by decide +kernel
theorem dX5_place_101 : decode cX5_place 101 = .ok (.iand, 1) := by decide +kernel
theorem dX5_place_102 : decode cX5_place 102 = .ok (.ifCond .eq 13, 3) := by decide +kernel
theorem dX5_place_105 : decode cX5_place 105 = .ok (.aload_n 0, 1) := by decide +kernel
theorem dX5_place_106 : decode cX5_place 106 = .ok (.getfield 44, 3) := by decide +kernel
theorem dX5_place_109 : decode cX5_place 109 = .ok (.iload 5, 2) := by decide +kernel
theorem dX5_place_111 : decode cX5_place 111 = .ok (.iaload, 1) := by decide +kernel
theorem dX5_place_112 : decode cX5_place 112 = .ok (.goto 4, 3) := by decide +kernel
theorem dX5_place_115 : decode cX5_place 115 = .ok (.iload_n 3, 1) := by decide +kernel
theorem dX5_place_116 : decode cX5_place 116 = .ok (.istore_n 3, 1) := by decide +kernel
theorem dX5_place_117 : decode cX5_place 117 = .ok (.iload 6, 2) := by decide +kernel
theorem dX5_place_119 : decode cX5_place 119 = .ok (.ifCond .eq 25, 3) := by decide +kernel
theorem dX5_place_122 : decode cX5_place 122 = .ok (.aload_n 0, 1) := by decide +kernel
theorem dX5_place_123 : decode cX5_place 123 = .ok (.getfield 50, 3) := by decide +kernel
theorem dX5_place_126 : decode cX5_place 126 = .ok (.iload 5, 2) := by decide +kernel
theorem dX5_place_128 : decode cX5_place 128 = .ok (.iaload, 1) := by decide +kernel
theorem dX5_place_129 : decode cX5_place 129 = .ok (.iconst 2, 1) := by decide +kernel
theorem dX5_place_130 : decode cX5_place 130 = .ok (.iand, 1) := by decide +kernel
theorem dX5_place_131 : decode cX5_place 131 = .ok (.ifCond .eq 13, 3) := by decide +kernel
theorem dX5_place_134 : decode cX5_place 134 = .ok (.aload_n 0, 1) := by decide +kernel
theorem dX5_place_135 : decode cX5_place 135 = .ok (.getfield 44, 3) := by decide +kernel
theorem dX5_place_138 : decode cX5_place 138 = .ok (.iload 5, 2) := by decide +kernel
theorem dX5_place_140 : decode cX5_place 140 = .ok (.iaload, 1) := by decide +kernel
theorem dX5_place_141 : decode cX5_place 141 = .ok (.goto 5, 3) := by decide +kernel
theorem dX5_place_144 : decode cX5_place 144 = .ok (.iload 4, 2) := by decide +kernel
theorem dX5_place_146 : decode cX5_place 146 = .ok (.istore 4, 2) := by decide +kernel
theorem dX5_place_148 : decode cX5_place 148 = .ok (.iinc 5 1, 3) := by decide +kernel
theorem dX5_place_151 : decode cX5_place 151 = .ok (.goto (-116), 3) := by decide +kernel
theorem dX5_place_154 : decode cX5_place 154 = .ok (.iload_n 3, 1) := by decide +kernel
theorem dX5_place_155 : decode cX5_place 155 = .ok (.ifCond .le 7, 3) := by decide +kernel
theorem dX5_place_158 : decode cX5_place 158 = .ok (.iload_n 3, 1) := by decide +kernel
theorem dX5_place_159 : decode cX5_place 159 = .ok (.goto 5, 3) := by decide +kernel
theorem dX5_place_162 : decode cX5_place 162 = .ok (.iload 4, 2) := by decide +kernel
theorem dX5_place_164 : decode cX5_place 164 = .ok (.ireturn, 1) := by decide +kernel
theorem dX5_cold_0 : decode cX5_cold 0 = .ok (.aload_n 0, 1) := by decide +kernel
theorem dX5_cold_1 : decode cX5_cold 1 = .ok (.iconst 0, 1) := by decide +kernel
theorem dX5_cold_2 : decode cX5_cold 2 = .ok (.putfield 81, 3) := by decide +kernel
theorem dX5_cold_5 : decode cX5_cold 5 = .ok (.aload_n 0, 1) := by decide +kernel
theorem dX5_cold_6 : decode cX5_cold 6 = .ok (.iload_n 1, 1) := by decide +kernel
theorem dX5_cold_7 : decode cX5_cold 7 = .ok (.invokevirtual 84, 3) := by decide +kernel
theorem dX5_cold_10 : decode cX5_cold 10 = .ok (.ifCond .ne 5, 3) := by decide +kernel
theorem dX5_cold_13 : decode cX5_cold 13 = .ok (.iconst (-1), 1) := by decide +kernel
theorem dX5_cold_14 : decode cX5_cold 14 = .ok (.ireturn, 1) := by decide +kernel
theorem dX5_cold_15 : decode cX5_cold 15 = .ok (.aload_n 0, 1) := by decide +kernel
theorem dX5_cold_16 : decode cX5_cold 16 = .ok (.getfield 13, 3) := by decide +kernel
theorem dX5_cold_19 : decode cX5_cold 19 = .ok (.iload_n 1, 1) := by decide +kernel
theorem dX5_cold_20 : decode cX5_cold 20 = .ok (.iload_n 2, 1) := by decide +kernel
theorem dX5_cold_21 : decode cX5_cold 21 = .ok (.bastore, 1) := by decide +kernel
theorem dX5_cold_22 : decode cX5_cold 22 = .ok (.iload_n 2, 1) := by decide +kernel
theorem dX5_cold_23 : decode cX5_cold 23 = .ok (.ifCond .eq 34, 3) := by decide +kernel
theorem dX5_cold_26 : decode cX5_cold 26 = .ok (.aload_n 0, 1) := by decide +kernel
theorem dX5_cold_27 : decode cX5_cold 27 = .ok (.getfield 7, 3) := by decide +kernel
theorem dX5_cold_30 : decode cX5_cold 30 = .ok (.iload_n 1, 1) := by decide +kernel
theorem dX5_cold_31 : decode cX5_cold 31 = .ok (.iaload, 1) := by decide +kernel
theorem dX5_cold_32 : decode cX5_cold 32 = .ok (.iconst 2, 1) := by decide +kernel
theorem dX5_cold_33 : decode cX5_cold 33 = .ok (.if_icmp .le 24, 3) := by decide +kernel
theorem dX5_cold_36 : decode cX5_cold 36 = .ok (.aload_n 0, 1) := by decide +kernel
theorem dX5_cold_37 : decode cX5_cold 37 = .ok (.getfield 7, 3) := by decide +kernel
theorem dX5_cold_40 : decode cX5_cold 40 = .ok (.iload_n 1, 1) := by decide +kernel
theorem dX5_cold_41 : decode cX5_cold 41 = .ok (.iconst 0, 1) := by decide +kernel
theorem dX5_cold_42 : decode cX5_cold 42 = .ok (.iastore, 1) := by decide +kernel
theorem dX5_cold_43 : decode cX5_cold 43 = .ok (.aload_n 0, 1) := by decide +kernel
theorem dX5_cold_44 : decode cX5_cold 44 = .ok (.getfield 17, 3) := by decide +kernel
theorem dX5_cold_47 : decode cX5_cold 47 = .ok (.iload_n 1, 1) := by decide +kernel
theorem dX5_cold_48 : decode cX5_cold 48 = .ok (.iconst 0, 1) := by decide +kernel
theorem dX5_cold_49 : decode cX5_cold 49 = .ok (.iastore, 1) := by decide +kernel
theorem dX5_cold_50 : decode cX5_cold 50 = .ok (.aload_n 0, 1) := by decide +kernel
theorem dX5_cold_51 : decode cX5_cold 51 = .ok (.getfield 23, 3) := by decide +kernel
theorem dX5_cold_54 : decode cX5_cold 54 = .ok (.iload_n 1, 1) := by decide +kernel
theorem dX5_cold_55 : decode cX5_cold 55 = .ok (.iconst 0, 1) := by decide +kernel
theorem dX5_cold_56 : decode cX5_cold 56 = .ok (.iastore, 1) := by decide +kernel
theorem dX5_cold_57 : decode cX5_cold 57 = .ok (.iconst 0, 1) := by decide +kernel
theorem dX5_cold_58 : decode cX5_cold 58 = .ok (.istore_n 3, 1) := by decide +kernel
theorem dX5_cold_59 : decode cX5_cold 59 = .ok (.iconst 1, 1) := by decide +kernel
theorem dX5_cold_60 : decode cX5_cold 60 = .ok (.istore 4, 2) := by decide +kernel
theorem dX5_cold_62 : decode cX5_cold 62 = .ok (.iload 4, 2) := by decide +kernel
theorem dX5_cold_64 : decode cX5_cold 64 = .ok (.aload_n 0, 1) := by decide +kernel
theorem dX5_cold_65 : decode cX5_cold 65 = .ok (.getfield 71, 3) := by decide +kernel
theorem dX5_cold_68 : decode cX5_cold 68 = .ok (.if_icmp .gt 27, 3) := by decide +kernel
theorem dX5_cold_71 : decode cX5_cold 71 = .ok (.iload_n 3, 1) := by decide +kernel
theorem dX5_cold_72 : decode cX5_cold 72 = .ok (.aload_n 0, 1) := by decide +kernel
theorem dX5_cold_73 : decode cX5_cold 73 = .ok (.getfield 13, 3) := by decide +kernel
theorem dX5_cold_76 : decode cX5_cold 76 = .ok (.iload 4, 2) := by decide +kernel
theorem dX5_cold_78 : decode cX5_cold 78 = .ok (.baload, 1) := by decide +kernel
theorem dX5_cold_79 : decode cX5_cold 79 = .ok (.ifCond .eq 7, 3) := by decide +kernel
theorem dX5_cold_82 : decode cX5_cold 82 = .ok (.iconst 1, 1) := by decide +kernel
theorem dX5_cold_83 : decode cX5_cold 83 = .ok (.goto 4, 3) := by decide +kernel
theorem dX5_cold_86 : decode cX5_cold 86 = .ok (.iconst 0, 1) := by decide +kernel
theorem dX5_cold_87 : decode cX5_cold 87 = .ok (.iadd, 1) := by decide +kernel
theorem dX5_cold_88 : decode cX5_cold 88 = .ok (.istore_n 3, 1) := by decide +kernel
theorem dX5_cold_89 : decode cX5_cold 89 = .ok (.iinc 4 1, 3) := by decide +kernel
theorem dX5_cold_92 : decode cX5_cold 92 = .ok (.goto (-30), 3) := by decide +kernel
theorem dX5_cold_95 : decode cX5_cold 95 = .ok (.iload_n 3, 1) := by decide +kernel
theorem dX5_cold_96 : decode cX5_cold 96 = .ok (.ireturn, 1) := by decide +kernel
theorem dX5_flip_0 : decode cX5_flip 0 = .ok (.aload_n 0, 1) := by decide +kernel
theorem dX5_flip_1 : decode cX5_flip 1 = .ok (.iconst 0, 1) := by decide +kernel
theorem dX5_flip_2 : decode cX5_flip 2 = .ok (.putfield 81, 3) := by decide +kernel
theorem dX5_flip_5 : decode cX5_flip 5 = .ok (.iload_n 1, 1) := by decide +kernel
theorem dX5_flip_6 : decode cX5_flip 6 = .ok (.iconst 1, 1) := by decide +kernel
theorem dX5_flip_7 : decode cX5_flip 7 = .ok (.if_icmp .lt 16, 3) := by decide +kernel
theorem dX5_flip_10 : decode cX5_flip 10 = .ok (.iload_n 1, 1) := by decide +kernel
theorem dX5_flip_11 : decode cX5_flip 11 = .ok (.iconst 2, 1) := by decide +kernel
theorem dX5_flip_12 : decode cX5_flip 12 = .ok (.if_icmp .gt 11, 3) := by decide +kernel
theorem dX5_flip_15 : decode cX5_flip 15 = .ok (.aload_n 0, 1) := by decide +kernel
theorem dX5_flip_16 : decode cX5_flip 16 = .ok (.iload_n 2, 1) := by decide +kernel
theorem dX5_flip_17 : decode cX5_flip 17 = .ok (.invokevirtual 88, 3) := by decide +kernel
theorem dX5_flip_20 : decode cX5_flip 20 = .ok (.ifCond .ne 5, 3) := by decide +kernel
theorem dX5_flip_23 : decode cX5_flip 23 = .ok (.iconst (-1), 1) := by decide +kernel
theorem dX5_flip_24 : decode cX5_flip 24 = .ok (.ireturn, 1) := by decide +kernel
theorem dX5_flip_25 : decode cX5_flip 25 = .ok (.aload_n 0, 1) := by decide +kernel
theorem dX5_flip_26 : decode cX5_flip 26 = .ok (.getfield 68, 3) := by decide +kernel
theorem dX5_flip_29 : decode cX5_flip 29 = .ok (.iload_n 2, 1) := by decide +kernel
theorem dX5_flip_30 : decode cX5_flip 30 = .ok (.iaload, 1) := by decide +kernel
theorem dX5_flip_31 : decode cX5_flip 31 = .ok (.iload_n 1, 1) := by decide +kernel
theorem dX5_flip_32 : decode cX5_flip 32 = .ok (.iand, 1) := by decide +kernel
theorem dX5_flip_33 : decode cX5_flip 33 = .ok (.ifCond .eq 6, 3) := by decide +kernel
theorem dX5_flip_36 : decode cX5_flip 36 = .ok (.bipush (-3), 2) := by decide +kernel
theorem dX5_flip_38 : decode cX5_flip 38 = .ok (.ireturn, 1) := by decide +kernel
theorem dX5_flip_39 : decode cX5_flip 39 = .ok (.aload_n 0, 1) := by decide +kernel
theorem dX5_flip_40 : decode cX5_flip 40 = .ok (.getfield 68, 3) := by decide +kernel
theorem dX5_flip_43 : decode cX5_flip 43 = .ok (.iload_n 2, 1) := by decide +kernel
theorem dX5_flip_44 : decode cX5_flip 44 = .ok (.dup2, 1) := by decide +kernel
theorem dX5_flip_45 : decode cX5_flip 45 = .ok (.iaload, 1) := by decide +kernel
theorem dX5_flip_46 : decode cX5_flip 46 = .ok (.iload_n 1, 1) := by decide +kernel
theorem dX5_flip_47 : decode cX5_flip 47 = .ok (.ior, 1) := by decide +kernel
theorem dX5_flip_48 : decode cX5_flip 48 = .ok (.iastore, 1) := by decide +kernel
theorem dX5_flip_49 : decode cX5_flip 49 = .ok (.iconst 0, 1) := by decide +kernel
theorem dX5_flip_50 : decode cX5_flip 50 = .ok (.istore_n 3, 1) := by decide +kernel
theorem dX5_flip_51 : decode cX5_flip 51 = .ok (.iconst 0, 1) := by decide +kernel
theorem dX5_flip_52 : decode cX5_flip 52 = .ok (.istore 4, 2) := by decide +kernel
theorem dX5_flip_54 : decode cX5_flip 54 = .ok (.iload 4, 2) := by decide +kernel
theorem dX5_flip_56 : decode cX5_flip 56 = .ok (.aload_n 0, 1) := by decide +kernel
theorem dX5_flip_57 : decode cX5_flip 57 = .ok (.getfield 75, 3) := by decide +kernel
theorem dX5_flip_60 : decode cX5_flip 60 = .ok (.if_icmp .ge 31, 3) := by decide +kernel
theorem dX5_flip_63 : decode cX5_flip 63 = .ok (.iload_n 3, 1) := by decide +kernel
theorem dX5_flip_64 : decode cX5_flip 64 = .ok (.aload_n 0, 1) := by decide +kernel
theorem dX5_flip_65 : decode cX5_flip 65 = .ok (.getfield 68, 3) := by decide +kernel
theorem dX5_flip_68 : decode cX5_flip 68 = .ok (.iload 4, 2) := by decide +kernel
theorem dX5_flip_70 : decode cX5_flip 70 = .ok (.iaload, 1) := by decide +kernel
theorem dX5_flip_71 : decode cX5_flip 71 = .ok (.iconst 1, 1) := by decide +kernel
theorem dX5_flip_72 : decode cX5_flip 72 = .ok (.iand, 1) := by decide +kernel
theorem dX5_flip_73 : decode cX5_flip 73 = .ok (.aload_n 0, 1) := by decide +kernel
theorem dX5_flip_74 : decode cX5_flip 74 = .ok (.getfield 68, 3) := by decide +kernel
theorem dX5_flip_77 : decode cX5_flip 77 = .ok (.iload 4, 2) := by decide +kernel
theorem dX5_flip_79 : decode cX5_flip 79 = .ok (.iaload, 1) := by decide +kernel
theorem dX5_flip_80 : decode cX5_flip 80 = .ok (.iconst 1, 1) := by decide +kernel
theorem dX5_flip_81 : decode cX5_flip 81 = .ok (.ishr, 1) := by decide +kernel
theorem dX5_flip_82 : decode cX5_flip 82 = .ok (.iadd, 1) := by decide +kernel
theorem dX5_flip_83 : decode cX5_flip 83 = .ok (.iadd, 1) := by decide +kernel
theorem dX5_flip_84 : decode cX5_flip 84 = .ok (.istore_n 3, 1) := by decide +kernel
theorem dX5_flip_85 : decode cX5_flip 85 = .ok (.iinc 4 1, 3) := by decide +kernel
theorem dX5_flip_88 : decode cX5_flip 88 = .ok (.goto (-34), 3) := by decide +kernel
theorem dX5_flip_91 : decode cX5_flip 91 = .ok (.iload_n 3, 1) := by decide +kernel
theorem dX5_flip_92 : decode cX5_flip 92 = .ok (.ireturn, 1) := by decide +kernel
theorem dX5_close_0 : decode cX5_close 0 = .ok (.aload_n 0, 1) := by decide +kernel
theorem dX5_close_1 : decode cX5_close 1 = .ok (.iconst 0, 1) := by decide +kernel
theorem dX5_close_2 : decode cX5_close 2 = .ok (.putfield 81, 3) := by decide +kernel
theorem dX5_close_5 : decode cX5_close 5 = .ok (.iconst 1, 1) := by decide +kernel
theorem dX5_close_6 : decode cX5_close 6 = .ok (.istore_n 2, 1) := by decide +kernel
theorem dX5_close_7 : decode cX5_close 7 = .ok (.iconst 1, 1) := by decide +kernel
theorem dX5_close_8 : decode cX5_close 8 = .ok (.istore_n 3, 1) := by decide +kernel
theorem dX5_close_9 : decode cX5_close 9 = .ok (.iload_n 3, 1) := by decide +kernel
theorem dX5_close_10 : decode cX5_close 10 = .ok (.aload_n 0, 1) := by decide +kernel
theorem dX5_close_11 : decode cX5_close 11 = .ok (.getfield 71, 3) := by decide +kernel
theorem dX5_close_14 : decode cX5_close 14 = .ok (.if_icmp .gt 122, 3) := by decide +kernel
theorem dX5_close_17 : decode cX5_close 17 = .ok (.iconst 1, 1) := by decide +kernel
theorem dX5_close_18 : decode cX5_close 18 = .ok (.istore 4, 2) := by decide +kernel
theorem dX5_close_20 : decode cX5_close 20 = .ok (.iload 4, 2) := by decide +kernel
theorem dX5_close_22 : decode cX5_close 22 = .ok (.iload_n 3, 1) := by decide +kernel
theorem dX5_close_23 : decode cX5_close 23 = .ok (.if_icmp .ge 107, 3) := by decide +kernel
theorem dX5_close_26 : decode cX5_close 26 = .ok (.aload_n 0, 1) := by decide +kernel
theorem dX5_close_27 : decode cX5_close 27 = .ok (.getfield 7, 3) := by decide +kernel
theorem dX5_close_30 : decode cX5_close 30 = .ok (.iload_n 3, 1) := by decide +kernel
theorem dX5_close_31 : decode cX5_close 31 = .ok (.iaload, 1) := by decide +kernel
theorem dX5_close_32 : decode cX5_close 32 = .ok (.iconst 2, 1) := by decide +kernel
theorem dX5_close_33 : decode cX5_close 33 = .ok (.if_icmp .ne 18, 3) := by decide +kernel
theorem dX5_close_36 : decode cX5_close 36 = .ok (.aload_n 0, 1) := by decide +kernel
theorem dX5_close_37 : decode cX5_close 37 = .ok (.getfield 7, 3) := by decide +kernel
theorem dX5_close_40 : decode cX5_close 40 = .ok (.iload 4, 2) := by decide +kernel
theorem dX5_close_42 : decode cX5_close 42 = .ok (.iaload, 1) := by decide +kernel
theorem dX5_close_43 : decode cX5_close 43 = .ok (.iconst 2, 1) := by decide +kernel
theorem dX5_close_44 : decode cX5_close 44 = .ok (.if_icmp .ne 7, 3) := by decide +kernel
theorem dX5_close_47 : decode cX5_close 47 = .ok (.iconst 1, 1) := by decide +kernel
theorem dX5_close_48 : decode cX5_close 48 = .ok (.goto 4, 3) := by decide +kernel
theorem dX5_close_51 : decode cX5_close 51 = .ok (.iconst 0, 1) := by decide +kernel
theorem dX5_close_52 : decode cX5_close 52 = .ok (.istore 5, 2) := by decide +kernel
theorem dX5_close_54 : decode cX5_close 54 = .ok (.aload_n 0, 1) := by decide +kernel
theorem dX5_close_55 : decode cX5_close 55 = .ok (.getfield 17, 3) := by decide +kernel
theorem dX5_close_58 : decode cX5_close 58 = .ok (.iload_n 3, 1) := by decide +kernel
theorem dX5_close_59 : decode cX5_close 59 = .ok (.iaload, 1) := by decide +kernel
theorem dX5_close_60 : decode cX5_close 60 = .ok (.aload_n 0, 1) := by decide +kernel
theorem dX5_close_61 : decode cX5_close 61 = .ok (.getfield 17, 3) := by decide +kernel
theorem dX5_close_64 : decode cX5_close 64 = .ok (.iload 4, 2) := by decide +kernel
theorem dX5_close_66 : decode cX5_close 66 = .ok (.iaload, 1) := by decide +kernel
theorem dX5_close_67 : decode cX5_close 67 = .ok (.if_icmp .le 20, 3) := by decide +kernel
theorem dX5_close_70 : decode cX5_close 70 = .ok (.aload_n 0, 1) := by decide +kernel
theorem dX5_close_71 : decode cX5_close 71 = .ok (.getfield 17, 3) := by decide +kernel
theorem dX5_close_74 : decode cX5_close 74 = .ok (.iload_n 3, 1) := by decide +kernel
theorem dX5_close_75 : decode cX5_close 75 = .ok (.iaload, 1) := by decide +kernel
theorem dX5_close_76 : decode cX5_close 76 = .ok (.aload_n 0, 1) := by decide +kernel
theorem dX5_close_77 : decode cX5_close 77 = .ok (.getfield 17, 3) := by decide +kernel
theorem dX5_close_80 : decode cX5_close 80 = .ok (.iload 4, 2) := by decide +kernel
theorem dX5_close_82 : decode cX5_close 82 = .ok (.iaload, 1) := by decide +kernel
theorem dX5_close_83 : decode cX5_close 83 = .ok (.isub, 1) := by decide +kernel
theorem dX5_close_84 : decode cX5_close 84 = .ok (.goto 17, 3) := by decide +kernel
theorem dX5_close_87 : decode cX5_close 87 = .ok (.aload_n 0, 1) := by decide +kernel
theorem dX5_close_88 : decode cX5_close 88 = .ok (.getfield 17, 3) := by decide +kernel
theorem dX5_close_91 : decode cX5_close 91 = .ok (.iload 4, 2) := by decide +kernel
theorem dX5_close_93 : decode cX5_close 93 = .ok (.iaload, 1) := by decide +kernel
theorem dX5_close_94 : decode cX5_close 94 = .ok (.aload_n 0, 1) := by decide +kernel
theorem dX5_close_95 : decode cX5_close 95 = .ok (.getfield 17, 3) := by decide +kernel
theorem dX5_close_98 : decode cX5_close 98 = .ok (.iload_n 3, 1) := by decide +kernel
theorem dX5_close_99 : decode cX5_close 99 = .ok (.iaload, 1) := by decide +kernel
theorem dX5_close_100 : decode cX5_close 100 = .ok (.isub, 1) := by decide +kernel
theorem dX5_close_101 : decode cX5_close 101 = .ok (.istore 6, 2) := by decide +kernel
theorem dX5_close_103 : decode cX5_close 103 = .ok (.iload_n 2, 1) := by decide +kernel
theorem dX5_close_104 : decode cX5_close 104 = .ok (.ifCond .eq 18, 3) := by decide +kernel
theorem dX5_close_107 : decode cX5_close 107 = .ok (.iload 5, 2) := by decide +kernel
theorem dX5_close_109 : decode cX5_close 109 = .ok (.ifCond .eq 9, 3) := by decide +kernel
theorem dX5_close_112 : decode cX5_close 112 = .ok (.iload 6, 2) := by decide +kernel
theorem dX5_close_114 : decode cX5_close 114 = .ok (.iload_n 1, 1) := by decide +kernel
theorem dX5_close_115 : decode cX5_close 115 = .ok (.if_icmp .gt 7, 3) := by decide +kernel
theorem dX5_close_118 : decode cX5_close 118 = .ok (.iconst 1, 1) := by decide +kernel
theorem dX5_close_119 : decode cX5_close 119 = .ok (.goto 4, 3) := by decide +kernel
theorem dX5_close_122 : decode cX5_close 122 = .ok (.iconst 0, 1) := by decide +kernel
theorem dX5_close_123 : decode cX5_close 123 = .ok (.istore_n 2, 1) := by decide +kernel
theorem dX5_close_124 : decode cX5_close 124 = .ok (.iinc 4 1, 3) := by decide +kernel
theorem dX5_close_127 : decode cX5_close 127 = .ok (.goto (-107), 3) := by decide +kernel
theorem dX5_close_130 : decode cX5_close 130 = .ok (.iinc 3 1, 3) := by decide +kernel
theorem dX5_close_133 : decode cX5_close 133 = .ok (.goto (-124), 3) := by decide +kernel
theorem dX5_close_136 : decode cX5_close 136 = .ok (.iload_n 2, 1) := by decide +kernel
theorem dX5_close_137 : decode cX5_close 137 = .ok (.ireturn, 1) := by decide +kernel
theorem dX5_midpoint_0 : decode cX5_midpoint 0 = .ok (.aload_n 0, 1) := by decide +kernel
theorem dX5_midpoint_1 : decode cX5_midpoint 1 = .ok (.iconst 0, 1) := by decide +kernel
theorem dX5_midpoint_2 : decode cX5_midpoint 2 = .ok (.putfield 81, 3) := by decide +kernel
theorem dX5_midpoint_5 : decode cX5_midpoint 5 = .ok (.aload_n 0, 1) := by decide +kernel
theorem dX5_midpoint_6 : decode cX5_midpoint 6 = .ok (.iload_n 1, 1) := by decide +kernel
theorem dX5_midpoint_7 : decode cX5_midpoint 7 = .ok (.invokevirtual 84, 3) := by decide +kernel
theorem dX5_midpoint_10 : decode cX5_midpoint 10 = .ok (.ifCond .eq 12, 3) := by decide +kernel
theorem dX5_midpoint_13 : decode cX5_midpoint 13 = .ok (.aload_n 0, 1) := by decide +kernel
theorem dX5_midpoint_14 : decode cX5_midpoint 14 = .ok (.getfield 26, 3) := by decide +kernel
theorem dX5_midpoint_17 : decode cX5_midpoint 17 = .ok (.iload_n 1, 1) := by decide +kernel
theorem dX5_midpoint_18 : decode cX5_midpoint 18 = .ok (.iaload, 1) := by decide +kernel
theorem dX5_midpoint_19 : decode cX5_midpoint 19 = .ok (.goto 4, 3) := by decide +kernel
theorem dX5_midpoint_22 : decode cX5_midpoint 22 = .ok (.iconst 0, 1) := by decide +kernel
theorem dX5_midpoint_23 : decode cX5_midpoint 23 = .ok (.ireturn, 1) := by decide +kernel
theorem dJx00060_init_da8c8_0 : decode cJx00060_init_da8c8 0 = .ok (.aload_n 0, 1) := by decide +kernel
theorem dJx00060_init_da8c8_1 : decode cJx00060_init_da8c8 1 = .ok (.invokespecial 1, 3) := by decide +kernel
theorem dJx00060_init_da8c8_4 : decode cJx00060_init_da8c8 4 = .ok (.return_, 1) := by decide +kernel
theorem dJx00060_init_a7421_0 : decode cJx00060_init_a7421 0 = .ok (.aload_n 0, 1) := by decide +kernel
theorem dJx00060_init_a7421_1 : decode cJx00060_init_a7421 1 = .ok (.aload_n 1, 1) := by decide +kernel
theorem dJx00060_init_a7421_2 : decode cJx00060_init_a7421 2 = .ok (.invokespecial 7, 3) := by decide +kernel
theorem dJx00060_init_a7421_5 : decode cJx00060_init_a7421 5 = .ok (.return_, 1) := by decide +kernel
theorem dJ6_bitCount_0f7a4_0 : decode cJ6_bitCount_0f7a4 0 = .ok (.iload_n 0, 1) := by decide +kernel
theorem dJ6_bitCount_0f7a4_1 : decode cJ6_bitCount_0f7a4 1 = .ok (.iload_n 0, 1) := by decide +kernel
theorem dJ6_bitCount_0f7a4_2 : decode cJ6_bitCount_0f7a4 2 = .ok (.iconst 1, 1) := by decide +kernel
theorem dJ6_bitCount_0f7a4_3 : decode cJ6_bitCount_0f7a4 3 = .ok (.iushr, 1) := by decide +kernel
theorem dJ6_bitCount_0f7a4_4 : decode cJ6_bitCount_0f7a4 4 = .ok (.ldc_w 265, 3) := by decide +kernel
theorem dJ6_bitCount_0f7a4_7 : decode cJ6_bitCount_0f7a4 7 = .ok (.iand, 1) := by decide +kernel
theorem dJ6_bitCount_0f7a4_8 : decode cJ6_bitCount_0f7a4 8 = .ok (.isub, 1) := by decide +kernel
theorem dJ6_bitCount_0f7a4_9 : decode cJ6_bitCount_0f7a4 9 = .ok (.istore_n 0, 1) := by decide +kernel
theorem dJ6_bitCount_0f7a4_10 : decode cJ6_bitCount_0f7a4 10 = .ok (.iload_n 0, 1) := by decide +kernel
theorem dJ6_bitCount_0f7a4_11 : decode cJ6_bitCount_0f7a4 11 = .ok (.ldc_w 266, 3) := by decide +kernel
theorem dJ6_bitCount_0f7a4_14 : decode cJ6_bitCount_0f7a4 14 = .ok (.iand, 1) := by decide +kernel
theorem dJ6_bitCount_0f7a4_15 : decode cJ6_bitCount_0f7a4 15 = .ok (.iload_n 0, 1) := by decide +kernel
theorem dJ6_bitCount_0f7a4_16 : decode cJ6_bitCount_0f7a4 16 = .ok (.iconst 2, 1) := by decide +kernel
theorem dJ6_bitCount_0f7a4_17 : decode cJ6_bitCount_0f7a4 17 = .ok (.iushr, 1) := by decide +kernel
theorem dJ6_bitCount_0f7a4_18 : decode cJ6_bitCount_0f7a4 18 = .ok (.ldc_w 266, 3) := by decide +kernel
theorem dJ6_bitCount_0f7a4_21 : decode cJ6_bitCount_0f7a4 21 = .ok (.iand, 1) := by decide +kernel
theorem dJ6_bitCount_0f7a4_22 : decode cJ6_bitCount_0f7a4 22 = .ok (.iadd, 1) := by decide +kernel
theorem dJ6_bitCount_0f7a4_23 : decode cJ6_bitCount_0f7a4 23 = .ok (.istore_n 0, 1) := by decide +kernel
theorem dJ6_bitCount_0f7a4_24 : decode cJ6_bitCount_0f7a4 24 = .ok (.iload_n 0, 1) := by decide +kernel
theorem dJ6_bitCount_0f7a4_25 : decode cJ6_bitCount_0f7a4 25 = .ok (.iload_n 0, 1) := by decide +kernel
theorem dJ6_bitCount_0f7a4_26 : decode cJ6_bitCount_0f7a4 26 = .ok (.iconst 4, 1) := by decide +kernel
theorem dJ6_bitCount_0f7a4_27 : decode cJ6_bitCount_0f7a4 27 = .ok (.iushr, 1) := by decide +kernel
theorem dJ6_bitCount_0f7a4_28 : decode cJ6_bitCount_0f7a4 28 = .ok (.iadd, 1) := by decide +kernel
theorem dJ6_bitCount_0f7a4_29 : decode cJ6_bitCount_0f7a4 29 = .ok (.ldc_w 267, 3) := by decide +kernel
theorem dJ6_bitCount_0f7a4_32 : decode cJ6_bitCount_0f7a4 32 = .ok (.iand, 1) := by decide +kernel
theorem dJ6_bitCount_0f7a4_33 : decode cJ6_bitCount_0f7a4 33 = .ok (.istore_n 0, 1) := by decide +kernel
theorem dJ6_bitCount_0f7a4_34 : decode cJ6_bitCount_0f7a4 34 = .ok (.iload_n 0, 1) := by decide +kernel
theorem dJ6_bitCount_0f7a4_35 : decode cJ6_bitCount_0f7a4 35 = .ok (.iload_n 0, 1) := by decide +kernel
theorem dJ6_bitCount_0f7a4_36 : decode cJ6_bitCount_0f7a4 36 = .ok (.bipush 8, 2) := by decide +kernel
theorem dJ6_bitCount_0f7a4_38 : decode cJ6_bitCount_0f7a4 38 = .ok (.iushr, 1) := by decide +kernel
theorem dJ6_bitCount_0f7a4_39 : decode cJ6_bitCount_0f7a4 39 = .ok (.iadd, 1) := by decide +kernel
theorem dJ6_bitCount_0f7a4_40 : decode cJ6_bitCount_0f7a4 40 = .ok (.istore_n 0, 1) := by decide +kernel
theorem dJ6_bitCount_0f7a4_41 : decode cJ6_bitCount_0f7a4 41 = .ok (.iload_n 0, 1) := by decide +kernel
theorem dJ6_bitCount_0f7a4_42 : decode cJ6_bitCount_0f7a4 42 = .ok (.iload_n 0, 1) := by decide +kernel
theorem dJ6_bitCount_0f7a4_43 : decode cJ6_bitCount_0f7a4 43 = .ok (.bipush 16, 2) := by decide +kernel
theorem dJ6_bitCount_0f7a4_45 : decode cJ6_bitCount_0f7a4 45 = .ok (.iushr, 1) := by decide +kernel
theorem dJ6_bitCount_0f7a4_46 : decode cJ6_bitCount_0f7a4 46 = .ok (.iadd, 1) := by decide +kernel
theorem dJ6_bitCount_0f7a4_47 : decode cJ6_bitCount_0f7a4 47 = .ok (.istore_n 0, 1) := by decide +kernel
theorem dJ6_bitCount_0f7a4_48 : decode cJ6_bitCount_0f7a4 48 = .ok (.iload_n 0, 1) := by decide +kernel
theorem dJ6_bitCount_0f7a4_49 : decode cJ6_bitCount_0f7a4 49 = .ok (.bipush 63, 2) := by decide +kernel
theorem dJ6_bitCount_0f7a4_51 : decode cJ6_bitCount_0f7a4 51 = .ok (.iand, 1) := by decide +kernel
theorem dJ6_bitCount_0f7a4_52 : decode cJ6_bitCount_0f7a4 52 = .ok (.ireturn, 1) := by decide +kernel
theorem dJ9_abs_067f4_0 : decode cJ9_abs_067f4 0 = .ok (.lload_n 0, 1) := by decide +kernel
theorem dJ9_abs_067f4_1 : decode cJ9_abs_067f4 1 = .ok (.lconst 0, 1) := by decide +kernel
theorem dJ9_abs_067f4_2 : decode cJ9_abs_067f4 2 = .ok (.lcmp, 1) := by decide +kernel
theorem dJ9_abs_067f4_3 : decode cJ9_abs_067f4 3 = .ok (.ifCond .ge 8, 3) := by decide +kernel
theorem dJ9_abs_067f4_6 : decode cJ9_abs_067f4 6 = .ok (.lload_n 0, 1) := by decide +kernel
theorem dJ9_abs_067f4_7 : decode cJ9_abs_067f4 7 = .ok (.lneg, 1) := by decide +kernel
theorem dJ9_abs_067f4_8 : decode cJ9_abs_067f4 8 = .ok (.goto 4, 3) := by decide +kernel
theorem dJ9_abs_067f4_11 : decode cJ9_abs_067f4 11 = .ok (.lload_n 0, 1) := by decide +kernel
theorem dJ9_abs_067f4_12 : decode cJ9_abs_067f4 12 = .ok (.lreturn, 1) := by decide +kernel
theorem dJ9_max_7cf53_0 : decode cJ9_max_7cf53 0 = .ok (.iload_n 0, 1) := by decide +kernel
theorem dJ9_max_7cf53_1 : decode cJ9_max_7cf53 1 = .ok (.iload_n 1, 1) := by decide +kernel
theorem dJ9_max_7cf53_2 : decode cJ9_max_7cf53 2 = .ok (.if_icmp .lt 7, 3) := by decide +kernel
theorem dJ9_max_7cf53_5 : decode cJ9_max_7cf53 5 = .ok (.iload_n 0, 1) := by decide +kernel
theorem dJ9_max_7cf53_6 : decode cJ9_max_7cf53 6 = .ok (.goto 4, 3) := by decide +kernel
theorem dJ9_max_7cf53_9 : decode cJ9_max_7cf53 9 = .ok (.iload_n 1, 1) := by decide +kernel
theorem dJ9_max_7cf53_10 : decode cJ9_max_7cf53 10 = .ok (.ireturn, 1) := by decide +kernel
theorem dJ9_min_7cf53_0 : decode cJ9_min_7cf53 0 = .ok (.iload_n 0, 1) := by decide +kernel
theorem dJ9_min_7cf53_1 : decode cJ9_min_7cf53 1 = .ok (.iload_n 1, 1) := by decide +kernel
theorem dJ9_min_7cf53_2 : decode cJ9_min_7cf53 2 = .ok (.if_icmp .gt 7, 3) := by decide +kernel
theorem dJ9_min_7cf53_5 : decode cJ9_min_7cf53 5 = .ok (.iload_n 0, 1) := by decide +kernel
theorem dJ9_min_7cf53_6 : decode cJ9_min_7cf53 6 = .ok (.goto 4, 3) := by decide +kernel
theorem dJ9_min_7cf53_9 : decode cJ9_min_7cf53 9 = .ok (.iload_n 1, 1) := by decide +kernel
theorem dJ9_min_7cf53_10 : decode cJ9_min_7cf53 10 = .ok (.ireturn, 1) := by decide +kernel
theorem dL_cell_0 : decode cL_cell 0 = .ok (.iload_n 1, 1) := by decide +kernel
theorem dL_cell_1 : decode cL_cell 1 = .ok (.aload_n 0, 1) := by decide +kernel
theorem dL_cell_2 : decode cL_cell 2 = .ok (.arraylength, 1) := by decide +kernel
theorem dL_cell_3 : decode cL_cell 3 = .ok (.if_icmp .ge 9, 3) := by decide +kernel
theorem dL_cell_6 : decode cL_cell 6 = .ok (.aload_n 0, 1) := by decide +kernel
theorem dL_cell_7 : decode cL_cell 7 = .ok (.iload_n 1, 1) := by decide +kernel
theorem dL_cell_8 : decode cL_cell 8 = .ok (.iaload, 1) := by decide +kernel
theorem dL_cell_9 : decode cL_cell 9 = .ok (.goto 4, 3) := by decide +kernel
theorem dL_cell_12 : decode cL_cell 12 = .ok (.iconst 0, 1) := by decide +kernel
theorem dL_cell_13 : decode cL_cell 13 = .ok (.ireturn, 1) := by decide +kernel
theorem dL_place_0 : decode cL_place 0 = .ok (.aload_n 3, 1) := by decide +kernel
theorem dL_place_1 : decode cL_place 1 = .ok (.iconst 0, 1) := by decide +kernel
theorem dL_place_2 : decode cL_place 2 = .ok (.aload_n 0, 1) := by decide +kernel
theorem dL_place_3 : decode cL_place 3 = .ok (.iload_n 1, 1) := by decide +kernel
theorem dL_place_4 : decode cL_place 4 = .ok (.iload_n 2, 1) := by decide +kernel
theorem dL_place_5 : decode cL_place 5 = .ok (.invokevirtual 7, 3) := by decide +kernel
theorem dL_place_8 : decode cL_place 8 = .ok (.i2l, 1) := by decide +kernel
theorem dL_place_9 : decode cL_place 9 = .ok (.lastore, 1) := by decide +kernel
theorem dL_place_10 : decode cL_place 10 = .ok (.goto 7, 3) := by decide +kernel
theorem dL_place_13 : decode cL_place 13 = .ok (.astore 4, 2) := by decide +kernel
theorem dL_place_15 : decode cL_place 15 = .ok (.iconst 1, 1) := by decide +kernel
theorem dL_place_16 : decode cL_place 16 = .ok (.ireturn, 1) := by decide +kernel
theorem dL_place_17 : decode cL_place 17 = .ok (.iconst 0, 1) := by decide +kernel
theorem dL_place_18 : decode cL_place 18 = .ok (.ireturn, 1) := by decide +kernel
theorem dL_law_0 : decode cL_law 0 = .ok (.new 8, 3) := by decide +kernel
theorem dL_law_3 : decode cL_law 3 = .ok (.dup, 1) := by decide +kernel
theorem dL_law_4 : decode cL_law 4 = .ok (.aload_n 0, 1) := by decide +kernel
theorem dL_law_5 : decode cL_law 5 = .ok (.iconst 0, 1) := by decide +kernel
theorem dL_law_6 : decode cL_law 6 = .ok (.invokestatic 15, 3) := by decide +kernel
theorem dL_law_9 : decode cL_law 9 = .ok (.aload_n 0, 1) := by decide +kernel
theorem dL_law_10 : decode cL_law 10 = .ok (.iconst 1, 1) := by decide +kernel
theorem dL_law_11 : decode cL_law 11 = .ok (.invokestatic 15, 3) := by decide +kernel
theorem dL_law_14 : decode cL_law 14 = .ok (.aload_n 0, 1) := by decide +kernel
theorem dL_law_15 : decode cL_law 15 = .ok (.iconst 2, 1) := by decide +kernel
theorem dL_law_16 : decode cL_law 16 = .ok (.invokestatic 15, 3) := by decide +kernel
theorem dL_law_19 : decode cL_law 19 = .ok (.invokespecial 21, 3) := by decide +kernel
theorem dL_law_22 : decode cL_law 22 = .ok (.astore_n 1, 1) := by decide +kernel
theorem dL_law_23 : decode cL_law 23 = .ok (.new 24, 3) := by decide +kernel
theorem dL_law_26 : decode cL_law 26 = .ok (.dup, 1) := by decide +kernel
theorem dL_law_27 : decode cL_law 27 = .ok (.aload_n 0, 1) := by decide +kernel
theorem dL_law_28 : decode cL_law 28 = .ok (.iconst 0, 1) := by decide +kernel
theorem dL_law_29 : decode cL_law 29 = .ok (.invokestatic 15, 3) := by decide +kernel
theorem dL_law_32 : decode cL_law 32 = .ok (.aload_n 0, 1) := by decide +kernel
theorem dL_law_33 : decode cL_law 33 = .ok (.iconst 1, 1) := by decide +kernel
theorem dL_law_34 : decode cL_law 34 = .ok (.invokestatic 15, 3) := by decide +kernel
theorem dL_law_37 : decode cL_law 37 = .ok (.aload_n 0, 1) := by decide +kernel
theorem dL_law_38 : decode cL_law 38 = .ok (.iconst 2, 1) := by decide +kernel
theorem dL_law_39 : decode cL_law 39 = .ok (.invokestatic 15, 3) := by decide +kernel
theorem dL_law_42 : decode cL_law 42 = .ok (.invokespecial 26, 3) := by decide +kernel
theorem dL_law_45 : decode cL_law 45 = .ok (.astore_n 2, 1) := by decide +kernel
theorem dL_law_46 : decode cL_law 46 = .ok (.iconst 1, 1) := by decide +kernel
theorem dL_law_47 : decode cL_law 47 = .ok (.newarray .long, 2) := by decide +kernel
theorem dL_law_49 : decode cL_law 49 = .ok (.astore_n 3, 1) := by decide +kernel
theorem dL_law_50 : decode cL_law 50 = .ok (.iconst 3, 1) := by decide +kernel
theorem dL_law_51 : decode cL_law 51 = .ok (.istore 4, 2) := by decide +kernel
theorem dL_law_53 : decode cL_law 53 = .ok (.iload 4, 2) := by decide +kernel
theorem dL_law_55 : decode cL_law 55 = .ok (.aload_n 0, 1) := by decide +kernel
theorem dL_law_56 : decode cL_law 56 = .ok (.arraylength, 1) := by decide +kernel
theorem dL_law_57 : decode cL_law 57 = .ok (.bipush 6, 2) := by decide +kernel
theorem dL_law_59 : decode cL_law 59 = .ok (.isub, 1) := by decide +kernel
theorem dL_law_60 : decode cL_law 60 = .ok (.if_icmp .gt 545, 3) := by decide +kernel
theorem dL_law_63 : decode cL_law 63 = .ok (.aload_n 0, 1) := by decide +kernel
theorem dL_law_64 : decode cL_law 64 = .ok (.iload 4, 2) := by decide +kernel
theorem dL_law_66 : decode cL_law 66 = .ok (.iaload, 1) := by decide +kernel
theorem dL_law_67 : decode cL_law 67 = .ok (.bipush 15, 2) := by decide +kernel
theorem dL_law_69 : decode cL_law 69 = .ok (.iand, 1) := by decide +kernel
theorem dL_law_70 : decode cL_law 70 = .ok (.tableswitch 529 0 11 #[62, 135, 184, 221, 246, 271, 296, 321, 389, 442, 479, 504], 62) := by decide +kernel
theorem dL_law_132 : decode cL_law 132 = .ok (.aload_n 1, 1) := by decide +kernel
theorem dL_law_133 : decode cL_law 133 = .ok (.aload_n 0, 1) := by decide +kernel
theorem dL_law_134 : decode cL_law 134 = .ok (.iload 4, 2) := by decide +kernel
theorem dL_law_136 : decode cL_law 136 = .ok (.iconst 1, 1) := by decide +kernel
theorem dL_law_137 : decode cL_law 137 = .ok (.iadd, 1) := by decide +kernel
theorem dL_law_138 : decode cL_law 138 = .ok (.iaload, 1) := by decide +kernel
theorem dL_law_139 : decode cL_law 139 = .ok (.aload_n 0, 1) := by decide +kernel
theorem dL_law_140 : decode cL_law 140 = .ok (.iload 4, 2) := by decide +kernel
theorem dL_law_142 : decode cL_law 142 = .ok (.iconst 2, 1) := by decide +kernel
theorem dL_law_143 : decode cL_law 143 = .ok (.iadd, 1) := by decide +kernel
theorem dL_law_144 : decode cL_law 144 = .ok (.iaload, 1) := by decide +kernel
theorem dL_law_145 : decode cL_law 145 = .ok (.aload_n 0, 1) := by decide +kernel
theorem dL_law_146 : decode cL_law 146 = .ok (.iload 4, 2) := by decide +kernel
theorem dL_law_148 : decode cL_law 148 = .ok (.iconst 3, 1) := by decide +kernel
theorem dL_law_149 : decode cL_law 149 = .ok (.iadd, 1) := by decide +kernel
theorem dL_law_150 : decode cL_law 150 = .ok (.iaload, 1) := by decide +kernel
theorem dL_law_151 : decode cL_law 151 = .ok (.aload_n 0, 1) := by decide +kernel
theorem dL_law_152 : decode cL_law 152 = .ok (.iload 4, 2) := by decide +kernel
theorem dL_law_154 : decode cL_law 154 = .ok (.iconst 4, 1) := by decide +kernel
theorem dL_law_155 : decode cL_law 155 = .ok (.iadd, 1) := by decide +kernel
theorem dL_law_156 : decode cL_law 156 = .ok (.iaload, 1) := by decide +kernel
theorem dL_law_157 : decode cL_law 157 = .ok (.aload_n 0, 1) := by decide +kernel
theorem dL_law_158 : decode cL_law 158 = .ok (.iload 4, 2) := by decide +kernel
theorem dL_law_160 : decode cL_law 160 = .ok (.iconst 5, 1) := by decide +kernel
theorem dL_law_161 : decode cL_law 161 = .ok (.iadd, 1) := by decide +kernel
theorem dL_law_162 : decode cL_law 162 = .ok (.iaload, 1) := by decide +kernel
theorem dL_law_163 : decode cL_law 163 = .ok (.invokevirtual 27, 3) := by decide +kernel
theorem dL_law_166 : decode cL_law 166 = .ok (.aload_n 2, 1) := by decide +kernel
theorem dL_law_167 : decode cL_law 167 = .ok (.aload_n 0, 1) := by decide +kernel
theorem dL_law_168 : decode cL_law 168 = .ok (.iload 4, 2) := by decide +kernel
theorem dL_law_170 : decode cL_law 170 = .ok (.iconst 1, 1) := by decide +kernel
theorem dL_law_171 : decode cL_law 171 = .ok (.iadd, 1) := by decide +kernel
theorem dL_law_172 : decode cL_law 172 = .ok (.iaload, 1) := by decide +kernel
theorem dL_law_173 : decode cL_law 173 = .ok (.aload_n 0, 1) := by decide +kernel
theorem dL_law_174 : decode cL_law 174 = .ok (.iload 4, 2) := by decide +kernel
theorem dL_law_176 : decode cL_law 176 = .ok (.iconst 2, 1) := by decide +kernel
theorem dL_law_177 : decode cL_law 177 = .ok (.iadd, 1) := by decide +kernel
theorem dL_law_178 : decode cL_law 178 = .ok (.iaload, 1) := by decide +kernel
theorem dL_law_179 : decode cL_law 179 = .ok (.aload_n 0, 1) := by decide +kernel
theorem dL_law_180 : decode cL_law 180 = .ok (.iload 4, 2) := by decide +kernel
theorem dL_law_182 : decode cL_law 182 = .ok (.iconst 3, 1) := by decide +kernel
theorem dL_law_183 : decode cL_law 183 = .ok (.iadd, 1) := by decide +kernel
theorem dL_law_184 : decode cL_law 184 = .ok (.iaload, 1) := by decide +kernel
theorem dL_law_185 : decode cL_law 185 = .ok (.aload_n 0, 1) := by decide +kernel
theorem dL_law_186 : decode cL_law 186 = .ok (.iload 4, 2) := by decide +kernel
theorem dL_law_188 : decode cL_law 188 = .ok (.iconst 4, 1) := by decide +kernel
theorem dL_law_189 : decode cL_law 189 = .ok (.iadd, 1) := by decide +kernel
theorem dL_law_190 : decode cL_law 190 = .ok (.iaload, 1) := by decide +kernel
theorem dL_law_191 : decode cL_law 191 = .ok (.aload_n 0, 1) := by decide +kernel
theorem dL_law_192 : decode cL_law 192 = .ok (.iload 4, 2) := by decide +kernel
theorem dL_law_194 : decode cL_law 194 = .ok (.iconst 5, 1) := by decide +kernel
theorem dL_law_195 : decode cL_law 195 = .ok (.iadd, 1) := by decide +kernel
theorem dL_law_196 : decode cL_law 196 = .ok (.iaload, 1) := by decide +kernel
theorem dL_law_197 : decode cL_law 197 = .ok (.invokevirtual 31, 3) := by decide +kernel
theorem dL_law_200 : decode cL_law 200 = .ok (.if_icmp .eq 399, 3) := by decide +kernel
theorem dL_law_203 : decode cL_law 203 = .ok (.iconst 0, 1) := by decide +kernel
theorem dL_law_204 : decode cL_law 204 = .ok (.ireturn, 1) := by decide +kernel
theorem dL_law_205 : decode cL_law 205 = .ok (.aload_n 1, 1) := by decide +kernel
theorem dL_law_206 : decode cL_law 206 = .ok (.aload_n 0, 1) := by decide +kernel
theorem dL_law_207 : decode cL_law 207 = .ok (.iload 4, 2) := by decide +kernel
theorem dL_law_209 : decode cL_law 209 = .ok (.iconst 1, 1) := by decide +kernel
theorem dL_law_210 : decode cL_law 210 = .ok (.iadd, 1) := by decide +kernel
theorem dL_law_211 : decode cL_law 211 = .ok (.iaload, 1) := by decide +kernel
theorem dL_law_212 : decode cL_law 212 = .ok (.aload_n 0, 1) := by decide +kernel
theorem dL_law_213 : decode cL_law 213 = .ok (.iload 4, 2) := by decide +kernel
theorem dL_law_215 : decode cL_law 215 = .ok (.iconst 2, 1) := by decide +kernel
theorem dL_law_216 : decode cL_law 216 = .ok (.iadd, 1) := by decide +kernel
theorem dL_law_217 : decode cL_law 217 = .ok (.iaload, 1) := by decide +kernel
theorem dL_law_218 : decode cL_law 218 = .ok (.aload_n 0, 1) := by decide +kernel
theorem dL_law_219 : decode cL_law 219 = .ok (.iload 4, 2) := by decide +kernel
theorem dL_law_221 : decode cL_law 221 = .ok (.iconst 3, 1) := by decide +kernel
theorem dL_law_222 : decode cL_law 222 = .ok (.iadd, 1) := by decide +kernel
theorem dL_law_223 : decode cL_law 223 = .ok (.iaload, 1) := by decide +kernel
theorem dL_law_224 : decode cL_law 224 = .ok (.invokevirtual 32, 3) := by decide +kernel
theorem dL_law_227 : decode cL_law 227 = .ok (.aload_n 2, 1) := by decide +kernel
theorem dL_law_228 : decode cL_law 228 = .ok (.aload_n 0, 1) := by decide +kernel
theorem dL_law_229 : decode cL_law 229 = .ok (.iload 4, 2) := by decide +kernel
theorem dL_law_231 : decode cL_law 231 = .ok (.iconst 1, 1) := by decide +kernel
theorem dL_law_232 : decode cL_law 232 = .ok (.iadd, 1) := by decide +kernel
theorem dL_law_233 : decode cL_law 233 = .ok (.iaload, 1) := by decide +kernel
theorem dL_law_234 : decode cL_law 234 = .ok (.aload_n 0, 1) := by decide +kernel
theorem dL_law_235 : decode cL_law 235 = .ok (.iload 4, 2) := by decide +kernel
theorem dL_law_237 : decode cL_law 237 = .ok (.iconst 2, 1) := by decide +kernel
theorem dL_law_238 : decode cL_law 238 = .ok (.iadd, 1) := by decide +kernel
theorem dL_law_239 : decode cL_law 239 = .ok (.iaload, 1) := by decide +kernel
theorem dL_law_240 : decode cL_law 240 = .ok (.aload_n 0, 1) := by decide +kernel
theorem dL_law_241 : decode cL_law 241 = .ok (.iload 4, 2) := by decide +kernel
theorem dL_law_243 : decode cL_law 243 = .ok (.iconst 3, 1) := by decide +kernel
theorem dL_law_244 : decode cL_law 244 = .ok (.iadd, 1) := by decide +kernel
theorem dL_law_245 : decode cL_law 245 = .ok (.iaload, 1) := by decide +kernel
theorem dL_law_246 : decode cL_law 246 = .ok (.invokevirtual 36, 3) := by decide +kernel
theorem dL_law_249 : decode cL_law 249 = .ok (.if_icmp .eq 350, 3) := by decide +kernel
theorem dL_law_252 : decode cL_law 252 = .ok (.iconst 0, 1) := by decide +kernel
theorem dL_law_253 : decode cL_law 253 = .ok (.ireturn, 1) := by decide +kernel
theorem dL_law_254 : decode cL_law 254 = .ok (.aload_n 1, 1) := by decide +kernel
theorem dL_law_255 : decode cL_law 255 = .ok (.aload_n 0, 1) := by decide +kernel
theorem dL_law_256 : decode cL_law 256 = .ok (.iload 4, 2) := by decide +kernel
theorem dL_law_258 : decode cL_law 258 = .ok (.iconst 1, 1) := by decide +kernel
theorem dL_law_259 : decode cL_law 259 = .ok (.iadd, 1) := by decide +kernel
theorem dL_law_260 : decode cL_law 260 = .ok (.iaload, 1) := by decide +kernel
theorem dL_law_261 : decode cL_law 261 = .ok (.aload_n 0, 1) := by decide +kernel
theorem dL_law_262 : decode cL_law 262 = .ok (.iload 4, 2) := by decide +kernel
theorem dL_law_264 : decode cL_law 264 = .ok (.iconst 2, 1) := by decide +kernel
theorem dL_law_265 : decode cL_law 265 = .ok (.iadd, 1) := by decide +kernel
theorem dL_law_266 : decode cL_law 266 = .ok (.iaload, 1) := by decide +kernel
theorem dL_law_267 : decode cL_law 267 = .ok (.invokevirtual 37, 3) := by decide +kernel
theorem dL_law_270 : decode cL_law 270 = .ok (.aload_n 2, 1) := by decide +kernel
theorem dL_law_271 : decode cL_law 271 = .ok (.aload_n 0, 1) := by decide +kernel
theorem dL_law_272 : decode cL_law 272 = .ok (.iload 4, 2) := by decide +kernel
theorem dL_law_274 : decode cL_law 274 = .ok (.iconst 1, 1) := by decide +kernel
theorem dL_law_275 : decode cL_law 275 = .ok (.iadd, 1) := by decide +kernel
theorem dL_law_276 : decode cL_law 276 = .ok (.iaload, 1) := by decide +kernel
theorem dL_law_277 : decode cL_law 277 = .ok (.aload_n 0, 1) := by decide +kernel
theorem dL_law_278 : decode cL_law 278 = .ok (.iload 4, 2) := by decide +kernel
theorem dL_law_280 : decode cL_law 280 = .ok (.iconst 2, 1) := by decide +kernel
theorem dL_law_281 : decode cL_law 281 = .ok (.iadd, 1) := by decide +kernel
theorem dL_law_282 : decode cL_law 282 = .ok (.iaload, 1) := by decide +kernel
theorem dL_law_283 : decode cL_law 283 = .ok (.invokevirtual 40, 3) := by decide +kernel
theorem dL_law_286 : decode cL_law 286 = .ok (.if_icmp .eq 313, 3) := by decide +kernel
theorem dL_law_289 : decode cL_law 289 = .ok (.iconst 0, 1) := by decide +kernel
theorem dL_law_290 : decode cL_law 290 = .ok (.ireturn, 1) := by decide +kernel
theorem dL_law_291 : decode cL_law 291 = .ok (.aload_n 1, 1) := by decide +kernel
theorem dL_law_292 : decode cL_law 292 = .ok (.aload_n 0, 1) := by decide +kernel
theorem dL_law_293 : decode cL_law 293 = .ok (.iload 4, 2) := by decide +kernel
theorem dL_law_295 : decode cL_law 295 = .ok (.iconst 1, 1) := by decide +kernel
theorem dL_law_296 : decode cL_law 296 = .ok (.iadd, 1) := by decide +kernel
theorem dL_law_297 : decode cL_law 297 = .ok (.iaload, 1) := by decide +kernel
theorem dL_law_298 : decode cL_law 298 = .ok (.invokevirtual 41, 3) := by decide +kernel
theorem dL_law_301 : decode cL_law 301 = .ok (.aload_n 2, 1) := by decide +kernel
theorem dL_law_302 : decode cL_law 302 = .ok (.aload_n 0, 1) := by decide +kernel
theorem dL_law_303 : decode cL_law 303 = .ok (.iload 4, 2) := by decide +kernel
theorem dL_law_305 : decode cL_law 305 = .ok (.iconst 1, 1) := by decide +kernel
theorem dL_law_306 : decode cL_law 306 = .ok (.iadd, 1) := by decide +kernel
theorem dL_law_307 : decode cL_law 307 = .ok (.iaload, 1) := by decide +kernel
theorem dL_law_308 : decode cL_law 308 = .ok (.invokevirtual 45, 3) := by decide +kernel
theorem dL_law_311 : decode cL_law 311 = .ok (.if_icmp .eq 288, 3) := by decide +kernel
theorem dL_law_314 : decode cL_law 314 = .ok (.iconst 0, 1) := by decide +kernel
theorem dL_law_315 : decode cL_law 315 = .ok (.ireturn, 1) := by decide +kernel
theorem dL_law_316 : decode cL_law 316 = .ok (.aload_n 1, 1) := by decide +kernel
theorem dL_law_317 : decode cL_law 317 = .ok (.aload_n 0, 1) := by decide +kernel
theorem dL_law_318 : decode cL_law 318 = .ok (.iload 4, 2) := by decide +kernel
theorem dL_law_320 : decode cL_law 320 = .ok (.iconst 1, 1) := by decide +kernel
theorem dL_law_321 : decode cL_law 321 = .ok (.iadd, 1) := by decide +kernel
theorem dL_law_322 : decode cL_law 322 = .ok (.iaload, 1) := by decide +kernel
theorem dL_law_323 : decode cL_law 323 = .ok (.invokevirtual 46, 3) := by decide +kernel
theorem dL_law_326 : decode cL_law 326 = .ok (.aload_n 2, 1) := by decide +kernel
theorem dL_law_327 : decode cL_law 327 = .ok (.aload_n 0, 1) := by decide +kernel
theorem dL_law_328 : decode cL_law 328 = .ok (.iload 4, 2) := by decide +kernel
theorem dL_law_330 : decode cL_law 330 = .ok (.iconst 1, 1) := by decide +kernel
theorem dL_law_331 : decode cL_law 331 = .ok (.iadd, 1) := by decide +kernel
theorem dL_law_332 : decode cL_law 332 = .ok (.iaload, 1) := by decide +kernel
theorem dL_law_333 : decode cL_law 333 = .ok (.invokevirtual 49, 3) := by decide +kernel
theorem dL_law_336 : decode cL_law 336 = .ok (.if_icmp .eq 263, 3) := by decide +kernel
theorem dL_law_339 : decode cL_law 339 = .ok (.iconst 0, 1) := by decide +kernel
theorem dL_law_340 : decode cL_law 340 = .ok (.ireturn, 1) := by decide +kernel
theorem dL_law_341 : decode cL_law 341 = .ok (.aload_n 1, 1) := by decide +kernel
theorem dL_law_342 : decode cL_law 342 = .ok (.aload_n 0, 1) := by decide +kernel
theorem dL_law_343 : decode cL_law 343 = .ok (.iload 4, 2) := by decide +kernel
theorem dL_law_345 : decode cL_law 345 = .ok (.iconst 1, 1) := by decide +kernel
theorem dL_law_346 : decode cL_law 346 = .ok (.iadd, 1) := by decide +kernel
theorem dL_law_347 : decode cL_law 347 = .ok (.iaload, 1) := by decide +kernel
theorem dL_law_348 : decode cL_law 348 = .ok (.invokevirtual 50, 3) := by decide +kernel
theorem dL_law_351 : decode cL_law 351 = .ok (.aload_n 2, 1) := by decide +kernel
theorem dL_law_352 : decode cL_law 352 = .ok (.aload_n 0, 1) := by decide +kernel
theorem dL_law_353 : decode cL_law 353 = .ok (.iload 4, 2) := by decide +kernel
theorem dL_law_355 : decode cL_law 355 = .ok (.iconst 1, 1) := by decide +kernel
theorem dL_law_356 : decode cL_law 356 = .ok (.iadd, 1) := by decide +kernel
theorem dL_law_357 : decode cL_law 357 = .ok (.iaload, 1) := by decide +kernel
theorem dL_law_358 : decode cL_law 358 = .ok (.invokevirtual 53, 3) := by decide +kernel
theorem dL_law_361 : decode cL_law 361 = .ok (.if_icmp .eq 238, 3) := by decide +kernel
theorem dL_law_364 : decode cL_law 364 = .ok (.iconst 0, 1) := by decide +kernel
theorem dL_law_365 : decode cL_law 365 = .ok (.ireturn, 1) := by decide +kernel
theorem dL_law_366 : decode cL_law 366 = .ok (.aload_n 1, 1) := by decide +kernel
theorem dL_law_367 : decode cL_law 367 = .ok (.aload_n 0, 1) := by decide +kernel
theorem dL_law_368 : decode cL_law 368 = .ok (.iload 4, 2) := by decide +kernel
theorem dL_law_370 : decode cL_law 370 = .ok (.iconst 1, 1) := by decide +kernel
theorem dL_law_371 : decode cL_law 371 = .ok (.iadd, 1) := by decide +kernel
theorem dL_law_372 : decode cL_law 372 = .ok (.iaload, 1) := by decide +kernel
theorem dL_law_373 : decode cL_law 373 = .ok (.invokevirtual 54, 3) := by decide +kernel
theorem dL_law_376 : decode cL_law 376 = .ok (.aload_n 2, 1) := by decide +kernel
theorem dL_law_377 : decode cL_law 377 = .ok (.aload_n 0, 1) := by decide +kernel
theorem dL_law_378 : decode cL_law 378 = .ok (.iload 4, 2) := by decide +kernel
theorem dL_law_380 : decode cL_law 380 = .ok (.iconst 1, 1) := by decide +kernel
theorem dL_law_381 : decode cL_law 381 = .ok (.iadd, 1) := by decide +kernel
theorem dL_law_382 : decode cL_law 382 = .ok (.iaload, 1) := by decide +kernel
theorem dL_law_383 : decode cL_law 383 = .ok (.invokevirtual 57, 3) := by decide +kernel
theorem dL_law_386 : decode cL_law 386 = .ok (.if_icmp .eq 213, 3) := by decide +kernel
theorem dL_law_389 : decode cL_law 389 = .ok (.iconst 0, 1) := by decide +kernel
theorem dL_law_390 : decode cL_law 390 = .ok (.ireturn, 1) := by decide +kernel
theorem dL_law_391 : decode cL_law 391 = .ok (.aload_n 1, 1) := by decide +kernel
theorem dL_law_392 : decode cL_law 392 = .ok (.aload_n 0, 1) := by decide +kernel
theorem dL_law_393 : decode cL_law 393 = .ok (.iload 4, 2) := by decide +kernel
theorem dL_law_395 : decode cL_law 395 = .ok (.iconst 1, 1) := by decide +kernel
theorem dL_law_396 : decode cL_law 396 = .ok (.iadd, 1) := by decide +kernel
theorem dL_law_397 : decode cL_law 397 = .ok (.iaload, 1) := by decide +kernel
theorem dL_law_398 : decode cL_law 398 = .ok (.aload_n 0, 1) := by decide +kernel
theorem dL_law_399 : decode cL_law 399 = .ok (.iload 4, 2) := by decide +kernel
theorem dL_law_401 : decode cL_law 401 = .ok (.iconst 2, 1) := by decide +kernel
theorem dL_law_402 : decode cL_law 402 = .ok (.iadd, 1) := by decide +kernel
theorem dL_law_403 : decode cL_law 403 = .ok (.iaload, 1) := by decide +kernel
theorem dL_law_404 : decode cL_law 404 = .ok (.aload_n 3, 1) := by decide +kernel
theorem dL_law_405 : decode cL_law 405 = .ok (.invokestatic 58, 3) := by decide +kernel
theorem dL_law_408 : decode cL_law 408 = .ok (.istore 5, 2) := by decide +kernel
theorem dL_law_410 : decode cL_law 410 = .ok (.aload_n 2, 1) := by decide +kernel
theorem dL_law_411 : decode cL_law 411 = .ok (.aload_n 0, 1) := by decide +kernel
theorem dL_law_412 : decode cL_law 412 = .ok (.iload 4, 2) := by decide +kernel
theorem dL_law_414 : decode cL_law 414 = .ok (.iconst 1, 1) := by decide +kernel
theorem dL_law_415 : decode cL_law 415 = .ok (.iadd, 1) := by decide +kernel
theorem dL_law_416 : decode cL_law 416 = .ok (.iaload, 1) := by decide +kernel
theorem dL_law_417 : decode cL_law 417 = .ok (.aload_n 0, 1) := by decide +kernel
theorem dL_law_418 : decode cL_law 418 = .ok (.iload 4, 2) := by decide +kernel
theorem dL_law_420 : decode cL_law 420 = .ok (.iconst 2, 1) := by decide +kernel
theorem dL_law_421 : decode cL_law 421 = .ok (.iadd, 1) := by decide +kernel
theorem dL_law_422 : decode cL_law 422 = .ok (.iaload, 1) := by decide +kernel
theorem dL_law_423 : decode cL_law 423 = .ok (.invokevirtual 61, 3) := by decide +kernel
theorem dL_law_426 : decode cL_law 426 = .ok (.istore 6, 2) := by decide +kernel
theorem dL_law_428 : decode cL_law 428 = .ok (.aload_n 2, 1) := by decide +kernel
theorem dL_law_429 : decode cL_law 429 = .ok (.invokevirtual 62, 3) := by decide +kernel
theorem dL_law_432 : decode cL_law 432 = .ok (.iload 5, 2) := by decide +kernel
theorem dL_law_434 : decode cL_law 434 = .ok (.if_icmp .eq 5, 3) := by decide +kernel
theorem dL_law_437 : decode cL_law 437 = .ok (.iconst 0, 1) := by decide +kernel
theorem dL_law_438 : decode cL_law 438 = .ok (.ireturn, 1) := by decide +kernel
theorem dL_law_439 : decode cL_law 439 = .ok (.iload 5, 2) := by decide +kernel
theorem dL_law_441 : decode cL_law 441 = .ok (.ifCond .ne 15, 3) := by decide +kernel
theorem dL_law_444 : decode cL_law 444 = .ok (.aload_n 3, 1) := by decide +kernel
theorem dL_law_445 : decode cL_law 445 = .ok (.iconst 0, 1) := by decide +kernel
theorem dL_law_446 : decode cL_law 446 = .ok (.laload, 1) := by decide +kernel
theorem dL_law_447 : decode cL_law 447 = .ok (.iload 6, 2) := by decide +kernel
theorem dL_law_449 : decode cL_law 449 = .ok (.i2l, 1) := by decide +kernel
theorem dL_law_450 : decode cL_law 450 = .ok (.lcmp, 1) := by decide +kernel
theorem dL_law_451 : decode cL_law 451 = .ok (.ifCond .eq 5, 3) := by decide +kernel
theorem dL_law_454 : decode cL_law 454 = .ok (.iconst 0, 1) := by decide +kernel
theorem dL_law_455 : decode cL_law 455 = .ok (.ireturn, 1) := by decide +kernel
theorem dL_law_456 : decode cL_law 456 = .ok (.goto 143, 3) := by decide +kernel
theorem dL_law_459 : decode cL_law 459 = .ok (.aload_n 1, 1) := by decide +kernel
theorem dL_law_460 : decode cL_law 460 = .ok (.aload_n 0, 1) := by decide +kernel
theorem dL_law_461 : decode cL_law 461 = .ok (.iload 4, 2) := by decide +kernel
theorem dL_law_463 : decode cL_law 463 = .ok (.iconst 1, 1) := by decide +kernel
theorem dL_law_464 : decode cL_law 464 = .ok (.iadd, 1) := by decide +kernel
theorem dL_law_465 : decode cL_law 465 = .ok (.iaload, 1) := by decide +kernel
theorem dL_law_466 : decode cL_law 466 = .ok (.aload_n 0, 1) := by decide +kernel
theorem dL_law_467 : decode cL_law 467 = .ok (.iload 4, 2) := by decide +kernel
theorem dL_law_469 : decode cL_law 469 = .ok (.iconst 2, 1) := by decide +kernel
theorem dL_law_470 : decode cL_law 470 = .ok (.iadd, 1) := by decide +kernel
theorem dL_law_471 : decode cL_law 471 = .ok (.iaload, 1) := by decide +kernel
theorem dL_law_472 : decode cL_law 472 = .ok (.ifCond .eq 7, 3) := by decide +kernel
theorem dL_law_475 : decode cL_law 475 = .ok (.iconst 1, 1) := by decide +kernel
theorem dL_law_476 : decode cL_law 476 = .ok (.goto 4, 3) := by decide +kernel
theorem dL_law_479 : decode cL_law 479 = .ok (.iconst 0, 1) := by decide +kernel
theorem dL_law_480 : decode cL_law 480 = .ok (.invokevirtual 66, 3) := by decide +kernel
theorem dL_law_483 : decode cL_law 483 = .ok (.aload_n 2, 1) := by decide +kernel
theorem dL_law_484 : decode cL_law 484 = .ok (.aload_n 0, 1) := by decide +kernel
theorem dL_law_485 : decode cL_law 485 = .ok (.iload 4, 2) := by decide +kernel
theorem dL_law_487 : decode cL_law 487 = .ok (.iconst 1, 1) := by decide +kernel
theorem dL_law_488 : decode cL_law 488 = .ok (.iadd, 1) := by decide +kernel
theorem dL_law_489 : decode cL_law 489 = .ok (.iaload, 1) := by decide +kernel
theorem dL_law_490 : decode cL_law 490 = .ok (.aload_n 0, 1) := by decide +kernel
theorem dL_law_491 : decode cL_law 491 = .ok (.iload 4, 2) := by decide +kernel
theorem dL_law_493 : decode cL_law 493 = .ok (.iconst 2, 1) := by decide +kernel
theorem dL_law_494 : decode cL_law 494 = .ok (.iadd, 1) := by decide +kernel
theorem dL_law_495 : decode cL_law 495 = .ok (.iaload, 1) := by decide +kernel
theorem dL_law_496 : decode cL_law 496 = .ok (.ifCond .eq 7, 3) := by decide +kernel
theorem dL_law_499 : decode cL_law 499 = .ok (.iconst 1, 1) := by decide +kernel
theorem dL_law_500 : decode cL_law 500 = .ok (.goto 4, 3) := by decide +kernel
theorem dL_law_503 : decode cL_law 503 = .ok (.iconst 0, 1) := by decide +kernel
theorem dL_law_504 : decode cL_law 504 = .ok (.invokevirtual 70, 3) := by decide +kernel
theorem dL_law_507 : decode cL_law 507 = .ok (.if_icmp .eq 92, 3) := by decide +kernel
theorem dL_law_510 : decode cL_law 510 = .ok (.iconst 0, 1) := by decide +kernel
theorem dL_law_511 : decode cL_law 511 = .ok (.ireturn, 1) := by decide +kernel
theorem dL_law_512 : decode cL_law 512 = .ok (.aload_n 1, 1) := by decide +kernel
theorem dL_law_513 : decode cL_law 513 = .ok (.aload_n 0, 1) := by decide +kernel
theorem dL_law_514 : decode cL_law 514 = .ok (.iload 4, 2) := by decide +kernel
theorem dL_law_516 : decode cL_law 516 = .ok (.iconst 1, 1) := by decide +kernel
theorem dL_law_517 : decode cL_law 517 = .ok (.iadd, 1) := by decide +kernel
theorem dL_law_518 : decode cL_law 518 = .ok (.iaload, 1) := by decide +kernel
theorem dL_law_519 : decode cL_law 519 = .ok (.aload_n 0, 1) := by decide +kernel
theorem dL_law_520 : decode cL_law 520 = .ok (.iload 4, 2) := by decide +kernel
theorem dL_law_522 : decode cL_law 522 = .ok (.iconst 2, 1) := by decide +kernel
theorem dL_law_523 : decode cL_law 523 = .ok (.iadd, 1) := by decide +kernel
theorem dL_law_524 : decode cL_law 524 = .ok (.iaload, 1) := by decide +kernel
theorem dL_law_525 : decode cL_law 525 = .ok (.invokevirtual 71, 3) := by decide +kernel
theorem dL_law_528 : decode cL_law 528 = .ok (.aload_n 2, 1) := by decide +kernel
theorem dL_law_529 : decode cL_law 529 = .ok (.aload_n 0, 1) := by decide +kernel
theorem dL_law_530 : decode cL_law 530 = .ok (.iload 4, 2) := by decide +kernel
theorem dL_law_532 : decode cL_law 532 = .ok (.iconst 1, 1) := by decide +kernel
theorem dL_law_533 : decode cL_law 533 = .ok (.iadd, 1) := by decide +kernel
theorem dL_law_534 : decode cL_law 534 = .ok (.iaload, 1) := by decide +kernel
theorem dL_law_535 : decode cL_law 535 = .ok (.aload_n 0, 1) := by decide +kernel
theorem dL_law_536 : decode cL_law 536 = .ok (.iload 4, 2) := by decide +kernel
theorem dL_law_538 : decode cL_law 538 = .ok (.iconst 2, 1) := by decide +kernel
theorem dL_law_539 : decode cL_law 539 = .ok (.iadd, 1) := by decide +kernel
theorem dL_law_540 : decode cL_law 540 = .ok (.iaload, 1) := by decide +kernel
theorem dL_law_541 : decode cL_law 541 = .ok (.invokevirtual 74, 3) := by decide +kernel
theorem dL_law_544 : decode cL_law 544 = .ok (.if_icmp .eq 55, 3) := by decide +kernel
theorem dL_law_547 : decode cL_law 547 = .ok (.iconst 0, 1) := by decide +kernel
theorem dL_law_548 : decode cL_law 548 = .ok (.ireturn, 1) := by decide +kernel
theorem dL_law_549 : decode cL_law 549 = .ok (.aload_n 1, 1) := by decide +kernel
theorem dL_law_550 : decode cL_law 550 = .ok (.aload_n 0, 1) := by decide +kernel
theorem dL_law_551 : decode cL_law 551 = .ok (.iload 4, 2) := by decide +kernel
theorem dL_law_553 : decode cL_law 553 = .ok (.iconst 1, 1) := by decide +kernel
theorem dL_law_554 : decode cL_law 554 = .ok (.iadd, 1) := by decide +kernel
theorem dL_law_555 : decode cL_law 555 = .ok (.iaload, 1) := by decide +kernel
theorem dL_law_556 : decode cL_law 556 = .ok (.invokevirtual 75, 3) := by decide +kernel
theorem dL_law_559 : decode cL_law 559 = .ok (.aload_n 2, 1) := by decide +kernel
theorem dL_law_560 : decode cL_law 560 = .ok (.aload_n 0, 1) := by decide +kernel
theorem dL_law_561 : decode cL_law 561 = .ok (.iload 4, 2) := by decide +kernel
theorem dL_law_563 : decode cL_law 563 = .ok (.iconst 1, 1) := by decide +kernel
theorem dL_law_564 : decode cL_law 564 = .ok (.iadd, 1) := by decide +kernel
theorem dL_law_565 : decode cL_law 565 = .ok (.iaload, 1) := by decide +kernel
theorem dL_law_566 : decode cL_law 566 = .ok (.invokevirtual 79, 3) := by decide +kernel
theorem dL_law_569 : decode cL_law 569 = .ok (.if_icmp .eq 30, 3) := by decide +kernel
theorem dL_law_572 : decode cL_law 572 = .ok (.iconst 0, 1) := by decide +kernel
theorem dL_law_573 : decode cL_law 573 = .ok (.ireturn, 1) := by decide +kernel
theorem dL_law_574 : decode cL_law 574 = .ok (.aload_n 1, 1) := by decide +kernel
theorem dL_law_575 : decode cL_law 575 = .ok (.aload_n 0, 1) := by decide +kernel
theorem dL_law_576 : decode cL_law 576 = .ok (.iload 4, 2) := by decide +kernel
theorem dL_law_578 : decode cL_law 578 = .ok (.iconst 1, 1) := by decide +kernel
theorem dL_law_579 : decode cL_law 579 = .ok (.iadd, 1) := by decide +kernel
theorem dL_law_580 : decode cL_law 580 = .ok (.iaload, 1) := by decide +kernel
theorem dL_law_581 : decode cL_law 581 = .ok (.invokevirtual 80, 3) := by decide +kernel
theorem dL_law_584 : decode cL_law 584 = .ok (.aload_n 2, 1) := by decide +kernel
theorem dL_law_585 : decode cL_law 585 = .ok (.aload_n 0, 1) := by decide +kernel
theorem dL_law_586 : decode cL_law 586 = .ok (.iload 4, 2) := by decide +kernel
theorem dL_law_588 : decode cL_law 588 = .ok (.iconst 1, 1) := by decide +kernel
theorem dL_law_589 : decode cL_law 589 = .ok (.iadd, 1) := by decide +kernel
theorem dL_law_590 : decode cL_law 590 = .ok (.iaload, 1) := by decide +kernel
theorem dL_law_591 : decode cL_law 591 = .ok (.invokevirtual 83, 3) := by decide +kernel
theorem dL_law_594 : decode cL_law 594 = .ok (.if_icmp .eq 5, 3) := by decide +kernel
theorem dL_law_597 : decode cL_law 597 = .ok (.iconst 0, 1) := by decide +kernel
theorem dL_law_598 : decode cL_law 598 = .ok (.ireturn, 1) := by decide +kernel
theorem dL_law_599 : decode cL_law 599 = .ok (.iinc 4 6, 3) := by decide +kernel
theorem dL_law_602 : decode cL_law 602 = .ok (.goto (-549), 3) := by decide +kernel
theorem dL_law_605 : decode cL_law 605 = .ok (.iconst 1, 1) := by decide +kernel
theorem dL_law_606 : decode cL_law 606 = .ok (.ireturn, 1) := by decide +kernel
