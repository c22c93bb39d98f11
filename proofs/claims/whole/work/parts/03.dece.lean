theorem dX12_isSo_123 : decode cX12_isSo 123 = .ok (.getfield 93, 3) := by decide +kernel
theorem dX12_isSo_126 : decode cX12_isSo 126 = .ok (.iload_n 2, 1) := by decide +kernel
theorem dX12_isSo_127 : decode cX12_isSo 127 = .ok (.iaload, 1) := by decide +kernel
theorem dX12_isSo_128 : decode cX12_isSo 128 = .ok (.tableswitch 83 17 20 #[32, 42, 62, 65], 32) := by decide +kernel
theorem dX12_isSo_160 : decode cX12_isSo 160 = .ok (.iload_n 3, 1) := by decide +kernel
theorem dX12_isSo_161 : decode cX12_isSo 161 = .ok (.ifCond .eq 7, 3) := by decide +kernel
theorem dX12_isSo_164 : decode cX12_isSo 164 = .ok (.iconst 1, 1) := by decide +kernel
theorem dX12_isSo_165 : decode cX12_isSo 165 = .ok (.goto 4, 3) := by decide +kernel
theorem dX12_isSo_168 : decode cX12_isSo 168 = .ok (.iconst 0, 1) := by decide +kernel
theorem dX12_isSo_169 : decode cX12_isSo 169 = .ok (.ireturn, 1) := by decide +kernel
theorem dX12_isSo_170 : decode cX12_isSo 170 = .ok (.iload_n 3, 1) := by decide +kernel
theorem dX12_isSo_171 : decode cX12_isSo 171 = .ok (.iconst 1, 1) := by decide +kernel
theorem dX12_isSo_172 : decode cX12_isSo 172 = .ok (.aload_n 0, 1) := by decide +kernel
theorem dX12_isSo_173 : decode cX12_isSo 173 = .ok (.getfield 68, 3) := by decide +kernel
theorem dX12_isSo_176 : decode cX12_isSo 176 = .ok (.iload_n 1, 1) := by decide +kernel
theorem dX12_isSo_177 : decode cX12_isSo 177 = .ok (.iaload, 1) := by decide +kernel
theorem dX12_isSo_178 : decode cX12_isSo 178 = .ok (.ishl, 1) := by decide +kernel
theorem dX12_isSo_179 : decode cX12_isSo 179 = .ok (.iconst 1, 1) := by decide +kernel
theorem dX12_isSo_180 : decode cX12_isSo 180 = .ok (.isub, 1) := by decide +kernel
theorem dX12_isSo_181 : decode cX12_isSo 181 = .ok (.if_icmp .ne 7, 3) := by decide +kernel
theorem dX12_isSo_184 : decode cX12_isSo 184 = .ok (.iconst 1, 1) := by decide +kernel
theorem dX12_isSo_185 : decode cX12_isSo 185 = .ok (.goto 4, 3) := by decide +kernel
theorem dX12_isSo_188 : decode cX12_isSo 188 = .ok (.iconst 0, 1) := by decide +kernel
theorem dX12_isSo_189 : decode cX12_isSo 189 = .ok (.ireturn, 1) := by decide +kernel
theorem dX12_isSo_190 : decode cX12_isSo 190 = .ok (.iload 6, 2) := by decide +kernel
theorem dX12_isSo_192 : decode cX12_isSo 192 = .ok (.ireturn, 1) := by decide +kernel
theorem dX12_isSo_193 : decode cX12_isSo 193 = .ok (.iload 4, 2) := by decide +kernel
theorem dX12_isSo_195 : decode cX12_isSo 195 = .ok (.aload_n 0, 1) := by decide +kernel
theorem dX12_isSo_196 : decode cX12_isSo 196 = .ok (.getfield 96, 3) := by decide +kernel
theorem dX12_isSo_199 : decode cX12_isSo 199 = .ok (.iload_n 2, 1) := by decide +kernel
theorem dX12_isSo_200 : decode cX12_isSo 200 = .ok (.iaload, 1) := by decide +kernel
theorem dX12_isSo_201 : decode cX12_isSo 201 = .ok (.aload_n 0, 1) := by decide +kernel
theorem dX12_isSo_202 : decode cX12_isSo 202 = .ok (.getfield 99, 3) := by decide +kernel
theorem dX12_isSo_205 : decode cX12_isSo 205 = .ok (.iload_n 2, 1) := by decide +kernel
theorem dX12_isSo_206 : decode cX12_isSo 206 = .ok (.iaload, 1) := by decide +kernel
theorem dX12_isSo_207 : decode cX12_isSo 207 = .ok (.invokestatic 343, 3) := by decide +kernel
theorem dX12_isSo_210 : decode cX12_isSo 210 = .ok (.ireturn, 1) := by decide +kernel
theorem dX12_isSo_211 : decode cX12_isSo 211 = .ok (.iload 5, 2) := by decide +kernel
theorem dX12_isSo_213 : decode cX12_isSo 213 = .ok (.aload_n 0, 1) := by decide +kernel
theorem dX12_isSo_214 : decode cX12_isSo 214 = .ok (.getfield 96, 3) := by decide +kernel
theorem dX12_isSo_217 : decode cX12_isSo 217 = .ok (.iload_n 2, 1) := by decide +kernel
theorem dX12_isSo_218 : decode cX12_isSo 218 = .ok (.iaload, 1) := by decide +kernel
theorem dX12_isSo_219 : decode cX12_isSo 219 = .ok (.aload_n 0, 1) := by decide +kernel
theorem dX12_isSo_220 : decode cX12_isSo 220 = .ok (.getfield 99, 3) := by decide +kernel
theorem dX12_isSo_223 : decode cX12_isSo 223 = .ok (.iload_n 2, 1) := by decide +kernel
theorem dX12_isSo_224 : decode cX12_isSo 224 = .ok (.iaload, 1) := by decide +kernel
theorem dX12_isSo_225 : decode cX12_isSo 225 = .ok (.invokestatic 343, 3) := by decide +kernel
theorem dX12_isSo_228 : decode cX12_isSo 228 = .ok (.ireturn, 1) := by decide +kernel
theorem dX12_lineOf_0 : decode cX12_lineOf 0 = .ok (.iconst 1, 1) := by decide +kernel
theorem dX12_lineOf_1 : decode cX12_lineOf 1 = .ok (.aload_n 0, 1) := by decide +kernel
theorem dX12_lineOf_2 : decode cX12_lineOf 2 = .ok (.getfield 68, 3) := by decide +kernel
theorem dX12_lineOf_5 : decode cX12_lineOf 5 = .ok (.iload_n 1, 1) := by decide +kernel
theorem dX12_lineOf_6 : decode cX12_lineOf 6 = .ok (.iaload, 1) := by decide +kernel
theorem dX12_lineOf_7 : decode cX12_lineOf 7 = .ok (.ishl, 1) := by decide +kernel
theorem dX12_lineOf_8 : decode cX12_lineOf 8 = .ok (.iconst 1, 1) := by decide +kernel
theorem dX12_lineOf_9 : decode cX12_lineOf 9 = .ok (.isub, 1) := by decide +kernel
theorem dX12_lineOf_10 : decode cX12_lineOf 10 = .ok (.istore_n 2, 1) := by decide +kernel
theorem dX12_lineOf_11 : decode cX12_lineOf 11 = .ok (.iconst 0, 1) := by decide +kernel
theorem dX12_lineOf_12 : decode cX12_lineOf 12 = .ok (.istore_n 3, 1) := by decide +kernel
theorem dX12_lineOf_13 : decode cX12_lineOf 13 = .ok (.iload_n 3, 1) := by decide +kernel
theorem dX12_lineOf_14 : decode cX12_lineOf 14 = .ok (.aload_n 0, 1) := by decide +kernel
theorem dX12_lineOf_15 : decode cX12_lineOf 15 = .ok (.getfield 333, 3) := by decide +kernel
theorem dX12_lineOf_18 : decode cX12_lineOf 18 = .ok (.if_icmp .ge 387, 3) := by decide +kernel
theorem dX12_lineOf_21 : decode cX12_lineOf 21 = .ok (.iconst (-1), 1) := by decide +kernel
theorem dX12_lineOf_22 : decode cX12_lineOf 22 = .ok (.istore 4, 2) := by decide +kernel
theorem dX12_lineOf_24 : decode cX12_lineOf 24 = .ok (.iconst 0, 1) := by decide +kernel
theorem dX12_lineOf_25 : decode cX12_lineOf 25 = .ok (.istore 5, 2) := by decide +kernel
theorem dX12_lineOf_27 : decode cX12_lineOf 27 = .ok (.iload 5, 2) := by decide +kernel
theorem dX12_lineOf_29 : decode cX12_lineOf 29 = .ok (.aload_n 0, 1) := by decide +kernel
theorem dX12_lineOf_30 : decode cX12_lineOf 30 = .ok (.getfield 90, 3) := by decide +kernel
theorem dX12_lineOf_33 : decode cX12_lineOf 33 = .ok (.iload_n 3, 1) := by decide +kernel
theorem dX12_lineOf_34 : decode cX12_lineOf 34 = .ok (.iaload, 1) := by decide +kernel
theorem dX12_lineOf_35 : decode cX12_lineOf 35 = .ok (.if_icmp .ge 351, 3) := by decide +kernel
theorem dX12_lineOf_38 : decode cX12_lineOf 38 = .ok (.aload_n 0, 1) := by decide +kernel
theorem dX12_lineOf_39 : decode cX12_lineOf 39 = .ok (.getfield 108, 3) := by decide +kernel
theorem dX12_lineOf_42 : decode cX12_lineOf 42 = .ok (.aload_n 0, 1) := by decide +kernel
theorem dX12_lineOf_43 : decode cX12_lineOf 43 = .ok (.getfield 87, 3) := by decide +kernel
theorem dX12_lineOf_46 : decode cX12_lineOf 46 = .ok (.iload_n 3, 1) := by decide +kernel
theorem dX12_lineOf_47 : decode cX12_lineOf 47 = .ok (.iaload, 1) := by decide +kernel
theorem dX12_lineOf_48 : decode cX12_lineOf 48 = .ok (.iload 5, 2) := by decide +kernel
theorem dX12_lineOf_50 : decode cX12_lineOf 50 = .ok (.iadd, 1) := by decide +kernel
theorem dX12_lineOf_51 : decode cX12_lineOf 51 = .ok (.iaload, 1) := by decide +kernel
theorem dX12_lineOf_52 : decode cX12_lineOf 52 = .ok (.istore 6, 2) := by decide +kernel
theorem dX12_lineOf_54 : decode cX12_lineOf 54 = .ok (.aload_n 0, 1) := by decide +kernel
theorem dX12_lineOf_55 : decode cX12_lineOf 55 = .ok (.getfield 93, 3) := by decide +kernel
theorem dX12_lineOf_58 : decode cX12_lineOf 58 = .ok (.iload 6, 2) := by decide +kernel
theorem dX12_lineOf_60 : decode cX12_lineOf 60 = .ok (.iaload, 1) := by decide +kernel
theorem dX12_lineOf_61 : decode cX12_lineOf 61 = .ok (.istore 7, 2) := by decide +kernel
theorem dX12_lineOf_63 : decode cX12_lineOf 63 = .ok (.iload 6, 2) := by decide +kernel
theorem dX12_lineOf_65 : decode cX12_lineOf 65 = .ok (.istore 4, 2) := by decide +kernel
theorem dX12_lineOf_67 : decode cX12_lineOf 67 = .ok (.iload 7, 2) := by decide +kernel
theorem dX12_lineOf_69 : decode cX12_lineOf 69 = .ok (.bipush 12, 2) := by decide +kernel
theorem dX12_lineOf_71 : decode cX12_lineOf 71 = .ok (.if_icmp .le 10, 3) := by decide +kernel
theorem dX12_lineOf_74 : decode cX12_lineOf 74 = .ok (.iload 7, 2) := by decide +kernel
theorem dX12_lineOf_76 : decode cX12_lineOf 76 = .ok (.bipush 23, 2) := by decide +kernel
theorem dX12_lineOf_78 : decode cX12_lineOf 78 = .ok (.if_icmp .ne 28, 3) := by decide +kernel
theorem dX12_lineOf_81 : decode cX12_lineOf 81 = .ok (.aload_n 0, 1) := by decide +kernel
theorem dX12_lineOf_82 : decode cX12_lineOf 82 = .ok (.getfield 120, 3) := by decide +kernel
theorem dX12_lineOf_85 : decode cX12_lineOf 85 = .ok (.iload 6, 2) := by decide +kernel
theorem dX12_lineOf_87 : decode cX12_lineOf 87 = .ok (.aload_n 0, 1) := by decide +kernel
theorem dX12_lineOf_88 : decode cX12_lineOf 88 = .ok (.iload_n 1, 1) := by decide +kernel
theorem dX12_lineOf_89 : decode cX12_lineOf 89 = .ok (.iload 6, 2) := by decide +kernel
theorem dX12_lineOf_91 : decode cX12_lineOf 91 = .ok (.invokevirtual 347, 3) := by decide +kernel
theorem dX12_lineOf_94 : decode cX12_lineOf 94 = .ok (.iastore, 1) := by decide +kernel
theorem dX12_lineOf_95 : decode cX12_lineOf 95 = .ok (.aload_n 0, 1) := by decide +kernel
theorem dX12_lineOf_96 : decode cX12_lineOf 96 = .ok (.getfield 123, 3) := by decide +kernel
theorem dX12_lineOf_99 : decode cX12_lineOf 99 = .ok (.iload 6, 2) := by decide +kernel
theorem dX12_lineOf_101 : decode cX12_lineOf 101 = .ok (.iconst 1, 1) := by decide +kernel
theorem dX12_lineOf_102 : decode cX12_lineOf 102 = .ok (.bastore, 1) := by decide +kernel
theorem dX12_lineOf_103 : decode cX12_lineOf 103 = .ok (.goto 277, 3) := by decide +kernel
theorem dX12_lineOf_106 : decode cX12_lineOf 106 = .ok (.iload 7, 2) := by decide +kernel
theorem dX12_lineOf_108 : decode cX12_lineOf 108 = .ok (.bipush 15, 2) := by decide +kernel
theorem dX12_lineOf_110 : decode cX12_lineOf 110 = .ok (.if_icmp .ne 62, 3) := by decide +kernel
theorem dX12_lineOf_113 : decode cX12_lineOf 113 = .ok (.aload_n 0, 1) := by decide +kernel
theorem dX12_lineOf_114 : decode cX12_lineOf 114 = .ok (.getfield 123, 3) := by decide +kernel
theorem dX12_lineOf_117 : decode cX12_lineOf 117 = .ok (.iload 6, 2) := by decide +kernel
theorem dX12_lineOf_119 : decode cX12_lineOf 119 = .ok (.aload_n 0, 1) := by decide +kernel
theorem dX12_lineOf_120 : decode cX12_lineOf 120 = .ok (.getfield 123, 3) := by decide +kernel
theorem dX12_lineOf_123 : decode cX12_lineOf 123 = .ok (.aload_n 0, 1) := by decide +kernel
theorem dX12_lineOf_124 : decode cX12_lineOf 124 = .ok (.getfield 102, 3) := by decide +kernel
theorem dX12_lineOf_127 : decode cX12_lineOf 127 = .ok (.iload 6, 2) := by decide +kernel
theorem dX12_lineOf_129 : decode cX12_lineOf 129 = .ok (.iaload, 1) := by decide +kernel
theorem dX12_lineOf_130 : decode cX12_lineOf 130 = .ok (.baload, 1) := by decide +kernel
theorem dX12_lineOf_131 : decode cX12_lineOf 131 = .ok (.bastore, 1) := by decide +kernel
theorem dX12_lineOf_132 : decode cX12_lineOf 132 = .ok (.aload_n 0, 1) := by decide +kernel
theorem dX12_lineOf_133 : decode cX12_lineOf 133 = .ok (.getfield 120, 3) := by decide +kernel
theorem dX12_lineOf_136 : decode cX12_lineOf 136 = .ok (.iload 6, 2) := by decide +kernel
theorem dX12_lineOf_138 : decode cX12_lineOf 138 = .ok (.aload_n 0, 1) := by decide +kernel
theorem dX12_lineOf_139 : decode cX12_lineOf 139 = .ok (.getfield 123, 3) := by decide +kernel
theorem dX12_lineOf_142 : decode cX12_lineOf 142 = .ok (.iload 6, 2) := by decide +kernel
theorem dX12_lineOf_144 : decode cX12_lineOf 144 = .ok (.baload, 1) := by decide +kernel
theorem dX12_lineOf_145 : decode cX12_lineOf 145 = .ok (.ifCond .eq 7, 3) := by decide +kernel
theorem dX12_lineOf_148 : decode cX12_lineOf 148 = .ok (.iload_n 2, 1) := by decide +kernel
theorem dX12_lineOf_149 : decode cX12_lineOf 149 = .ok (.goto 4, 3) := by decide +kernel
theorem dX12_lineOf_152 : decode cX12_lineOf 152 = .ok (.iconst 1, 1) := by decide +kernel
theorem dX12_lineOf_153 : decode cX12_lineOf 153 = .ok (.aload_n 0, 1) := by decide +kernel
theorem dX12_lineOf_154 : decode cX12_lineOf 154 = .ok (.getfield 120, 3) := by decide +kernel
theorem dX12_lineOf_157 : decode cX12_lineOf 157 = .ok (.aload_n 0, 1) := by decide +kernel
theorem dX12_lineOf_158 : decode cX12_lineOf 158 = .ok (.getfield 102, 3) := by decide +kernel
theorem dX12_lineOf_161 : decode cX12_lineOf 161 = .ok (.iload 6, 2) := by decide +kernel
theorem dX12_lineOf_163 : decode cX12_lineOf 163 = .ok (.iaload, 1) := by decide +kernel
theorem dX12_lineOf_164 : decode cX12_lineOf 164 = .ok (.iaload, 1) := by decide +kernel
theorem dX12_lineOf_165 : decode cX12_lineOf 165 = .ok (.iconst (-1), 1) := by decide +kernel
theorem dX12_lineOf_166 : decode cX12_lineOf 166 = .ok (.ixor, 1) := by decide +kernel
theorem dX12_lineOf_167 : decode cX12_lineOf 167 = .ok (.iand, 1) := by decide +kernel
theorem dX12_lineOf_168 : decode cX12_lineOf 168 = .ok (.iastore, 1) := by decide +kernel
theorem dX12_lineOf_169 : decode cX12_lineOf 169 = .ok (.goto 211, 3) := by decide +kernel
theorem dX12_lineOf_172 : decode cX12_lineOf 172 = .ok (.iload 7, 2) := by decide +kernel
theorem dX12_lineOf_174 : decode cX12_lineOf 174 = .ok (.bipush 14, 2) := by decide +kernel
theorem dX12_lineOf_176 : decode cX12_lineOf 176 = .ok (.if_icmp .eq 10, 3) := by decide +kernel
theorem dX12_lineOf_179 : decode cX12_lineOf 179 = .ok (.iload 7, 2) := by decide +kernel
theorem dX12_lineOf_181 : decode cX12_lineOf 181 = .ok (.bipush 13, 2) := by decide +kernel
theorem dX12_lineOf_183 : decode cX12_lineOf 183 = .ok (.if_icmp .ne 92, 3) := by decide +kernel
theorem dX12_lineOf_186 : decode cX12_lineOf 186 = .ok (.aload_n 0, 1) := by decide +kernel
theorem dX12_lineOf_187 : decode cX12_lineOf 187 = .ok (.getfield 123, 3) := by decide +kernel
theorem dX12_lineOf_190 : decode cX12_lineOf 190 = .ok (.iload 6, 2) := by decide +kernel
theorem dX12_lineOf_192 : decode cX12_lineOf 192 = .ok (.aload_n 0, 1) := by decide +kernel
theorem dX12_lineOf_193 : decode cX12_lineOf 193 = .ok (.getfield 123, 3) := by decide +kernel
theorem dX12_lineOf_196 : decode cX12_lineOf 196 = .ok (.aload_n 0, 1) := by decide +kernel
theorem dX12_lineOf_197 : decode cX12_lineOf 197 = .ok (.getfield 102, 3) := by decide +kernel
theorem dX12_lineOf_200 : decode cX12_lineOf 200 = .ok (.iload 6, 2) := by decide +kernel
theorem dX12_lineOf_202 : decode cX12_lineOf 202 = .ok (.iaload, 1) := by decide +kernel
theorem dX12_lineOf_203 : decode cX12_lineOf 203 = .ok (.baload, 1) := by decide +kernel
theorem dX12_lineOf_204 : decode cX12_lineOf 204 = .ok (.bastore, 1) := by decide +kernel
theorem dX12_lineOf_205 : decode cX12_lineOf 205 = .ok (.aload_n 0, 1) := by decide +kernel
theorem dX12_lineOf_206 : decode cX12_lineOf 206 = .ok (.getfield 120, 3) := by decide +kernel
theorem dX12_lineOf_209 : decode cX12_lineOf 209 = .ok (.iload 6, 2) := by decide +kernel
theorem dX12_lineOf_211 : decode cX12_lineOf 211 = .ok (.iload 7, 2) := by decide +kernel
theorem dX12_lineOf_213 : decode cX12_lineOf 213 = .ok (.bipush 14, 2) := by decide +kernel
theorem dX12_lineOf_215 : decode cX12_lineOf 215 = .ok (.if_icmp .ne 31, 3) := by decide +kernel
theorem dX12_lineOf_218 : decode cX12_lineOf 218 = .ok (.aload_n 0, 1) := by decide +kernel
theorem dX12_lineOf_219 : decode cX12_lineOf 219 = .ok (.getfield 120, 3) := by decide +kernel
theorem dX12_lineOf_222 : decode cX12_lineOf 222 = .ok (.aload_n 0, 1) := by decide +kernel
theorem dX12_lineOf_223 : decode cX12_lineOf 223 = .ok (.getfield 102, 3) := by decide +kernel
theorem dX12_lineOf_226 : decode cX12_lineOf 226 = .ok (.iload 6, 2) := by decide +kernel
theorem dX12_lineOf_228 : decode cX12_lineOf 228 = .ok (.iaload, 1) := by decide +kernel
theorem dX12_lineOf_229 : decode cX12_lineOf 229 = .ok (.iaload, 1) := by decide +kernel
theorem dX12_lineOf_230 : decode cX12_lineOf 230 = .ok (.aload_n 0, 1) := by decide +kernel
theorem dX12_lineOf_231 : decode cX12_lineOf 231 = .ok (.getfield 120, 3) := by decide +kernel
theorem dX12_lineOf_234 : decode cX12_lineOf 234 = .ok (.aload_n 0, 1) := by decide +kernel
theorem dX12_lineOf_235 : decode cX12_lineOf 235 = .ok (.getfield 105, 3) := by decide +kernel
theorem dX12_lineOf_238 : decode cX12_lineOf 238 = .ok (.iload 6, 2) := by decide +kernel
theorem dX12_lineOf_240 : decode cX12_lineOf 240 = .ok (.iaload, 1) := by decide +kernel
theorem dX12_lineOf_241 : decode cX12_lineOf 241 = .ok (.iaload, 1) := by decide +kernel
theorem dX12_lineOf_242 : decode cX12_lineOf 242 = .ok (.iand, 1) := by decide +kernel
theorem dX12_lineOf_243 : decode cX12_lineOf 243 = .ok (.goto 28, 3) := by decide +kernel
theorem dX12_lineOf_246 : decode cX12_lineOf 246 = .ok (.aload_n 0, 1) := by decide +kernel
theorem dX12_lineOf_247 : decode cX12_lineOf 247 = .ok (.getfield 120, 3) := by decide +kernel
theorem dX12_lineOf_250 : decode cX12_lineOf 250 = .ok (.aload_n 0, 1) := by decide +kernel
theorem dX12_lineOf_251 : decode cX12_lineOf 251 = .ok (.getfield 102, 3) := by decide +kernel
theorem dX12_lineOf_254 : decode cX12_lineOf 254 = .ok (.iload 6, 2) := by decide +kernel
theorem dX12_lineOf_256 : decode cX12_lineOf 256 = .ok (.iaload, 1) := by decide +kernel
theorem dX12_lineOf_257 : decode cX12_lineOf 257 = .ok (.iaload, 1) := by decide +kernel
theorem dX12_lineOf_258 : decode cX12_lineOf 258 = .ok (.aload_n 0, 1) := by decide +kernel
theorem dX12_lineOf_259 : decode cX12_lineOf 259 = .ok (.getfield 120, 3) := by decide +kernel
theorem dX12_lineOf_262 : decode cX12_lineOf 262 = .ok (.aload_n 0, 1) := by decide +kernel
theorem dX12_lineOf_263 : decode cX12_lineOf 263 = .ok (.getfield 105, 3) := by decide +kernel
theorem dX12_lineOf_266 : decode cX12_lineOf 266 = .ok (.iload 6, 2) := by decide +kernel
theorem dX12_lineOf_268 : decode cX12_lineOf 268 = .ok (.iaload, 1) := by decide +kernel
theorem dX12_lineOf_269 : decode cX12_lineOf 269 = .ok (.iaload, 1) := by decide +kernel
theorem dX12_lineOf_270 : decode cX12_lineOf 270 = .ok (.ior, 1) := by decide +kernel
theorem dX12_lineOf_271 : decode cX12_lineOf 271 = .ok (.iastore, 1) := by decide +kernel
theorem dX12_lineOf_272 : decode cX12_lineOf 272 = .ok (.goto 108, 3) := by decide +kernel
theorem dX12_lineOf_275 : decode cX12_lineOf 275 = .ok (.aload_n 0, 1) := by decide +kernel
theorem dX12_lineOf_276 : decode cX12_lineOf 276 = .ok (.getfield 123, 3) := by decide +kernel
theorem dX12_lineOf_279 : decode cX12_lineOf 279 = .ok (.iload 6, 2) := by decide +kernel
theorem dX12_lineOf_281 : decode cX12_lineOf 281 = .ok (.iconst 0, 1) := by decide +kernel
theorem dX12_lineOf_282 : decode cX12_lineOf 282 = .ok (.bastore, 1) := by decide +kernel
theorem dX12_lineOf_283 : decode cX12_lineOf 283 = .ok (.iload 7, 2) := by decide +kernel
theorem dX12_lineOf_285 : decode cX12_lineOf 285 = .ok (.bipush 16, 2) := by decide +kernel
theorem dX12_lineOf_287 : decode cX12_lineOf 287 = .ok (.if_icmp .eq 69, 3) := by decide +kernel
theorem dX12_lineOf_290 : decode cX12_lineOf 290 = .ok (.iload 7, 2) := by decide +kernel
theorem dX12_lineOf_292 : decode cX12_lineOf 292 = .ok (.bipush 22, 2) := by decide +kernel
theorem dX12_lineOf_294 : decode cX12_lineOf 294 = .ok (.if_icmp .ne 40, 3) := by decide +kernel
theorem dX12_lineOf_297 : decode cX12_lineOf 297 = .ok (.aload_n 0, 1) := by decide +kernel
theorem dX12_lineOf_298 : decode cX12_lineOf 298 = .ok (.iload_n 1, 1) := by decide +kernel
theorem dX12_lineOf_299 : decode cX12_lineOf 299 = .ok (.aload_n 0, 1) := by decide +kernel
theorem dX12_lineOf_300 : decode cX12_lineOf 300 = .ok (.getfield 68, 3) := by decide +kernel
theorem dX12_lineOf_303 : decode cX12_lineOf 303 = .ok (.iload_n 1, 1) := by decide +kernel
theorem dX12_lineOf_304 : decode cX12_lineOf 304 = .ok (.iaload, 1) := by decide +kernel
theorem dX12_lineOf_305 : decode cX12_lineOf 305 = .ok (.iconst 1, 1) := by decide +kernel
theorem dX12_lineOf_306 : decode cX12_lineOf 306 = .ok (.isub, 1) := by decide +kernel
theorem dX12_lineOf_307 : decode cX12_lineOf 307 = .ok (.iconst 1, 1) := by decide +kernel
theorem dX12_lineOf_308 : decode cX12_lineOf 308 = .ok (.invokevirtual 339, 3) := by decide +kernel
theorem dX12_lineOf_311 : decode cX12_lineOf 311 = .ok (.aload_n 0, 1) := by decide +kernel
theorem dX12_lineOf_312 : decode cX12_lineOf 312 = .ok (.getfield 96, 3) := by decide +kernel
theorem dX12_lineOf_315 : decode cX12_lineOf 315 = .ok (.iload 6, 2) := by decide +kernel
theorem dX12_lineOf_317 : decode cX12_lineOf 317 = .ok (.iaload, 1) := by decide +kernel
theorem dX12_lineOf_318 : decode cX12_lineOf 318 = .ok (.aload_n 0, 1) := by decide +kernel
theorem dX12_lineOf_319 : decode cX12_lineOf 319 = .ok (.getfield 99, 3) := by decide +kernel
theorem dX12_lineOf_322 : decode cX12_lineOf 322 = .ok (.iload 6, 2) := by decide +kernel
theorem dX12_lineOf_324 : decode cX12_lineOf 324 = .ok (.iaload, 1) := by decide +kernel
theorem dX12_lineOf_325 : decode cX12_lineOf 325 = .ok (.invokestatic 343, 3) := by decide +kernel
theorem dX12_lineOf_328 : decode cX12_lineOf 328 = .ok (.ifCond .eq 32, 3) := by decide +kernel
theorem dX12_lineOf_331 : decode cX12_lineOf 331 = .ok (.goto 25, 3) := by decide +kernel
theorem dX12_lineOf_334 : decode cX12_lineOf 334 = .ok (.aload_n 0, 1) := by decide +kernel
theorem dX12_lineOf_335 : decode cX12_lineOf 335 = .ok (.iload_n 1, 1) := by decide +kernel
theorem dX12_lineOf_336 : decode cX12_lineOf 336 = .ok (.iload 6, 2) := by decide +kernel
theorem dX12_lineOf_338 : decode cX12_lineOf 338 = .ok (.aload_n 0, 1) := by decide +kernel
theorem dX12_lineOf_339 : decode cX12_lineOf 339 = .ok (.getfield 120, 3) := by decide +kernel
theorem dX12_lineOf_342 : decode cX12_lineOf 342 = .ok (.aload_n 0, 1) := by decide +kernel
theorem dX12_lineOf_343 : decode cX12_lineOf 343 = .ok (.getfield 102, 3) := by decide +kernel
theorem dX12_lineOf_346 : decode cX12_lineOf 346 = .ok (.iload 6, 2) := by decide +kernel
theorem dX12_lineOf_348 : decode cX12_lineOf 348 = .ok (.iaload, 1) := by decide +kernel
theorem dX12_lineOf_349 : decode cX12_lineOf 349 = .ok (.iaload, 1) := by decide +kernel
theorem dX12_lineOf_350 : decode cX12_lineOf 350 = .ok (.invokevirtual 350, 3) := by decide +kernel
theorem dX12_lineOf_353 : decode cX12_lineOf 353 = .ok (.ifCond .eq 7, 3) := by decide +kernel
theorem dX12_lineOf_356 : decode cX12_lineOf 356 = .ok (.iconst 1, 1) := by decide +kernel
theorem dX12_lineOf_357 : decode cX12_lineOf 357 = .ok (.goto 4, 3) := by decide +kernel
theorem dX12_lineOf_360 : decode cX12_lineOf 360 = .ok (.iconst 0, 1) := by decide +kernel
theorem dX12_lineOf_361 : decode cX12_lineOf 361 = .ok (.istore 8, 2) := by decide +kernel
theorem dX12_lineOf_363 : decode cX12_lineOf 363 = .ok (.aload_n 0, 1) := by decide +kernel
theorem dX12_lineOf_364 : decode cX12_lineOf 364 = .ok (.getfield 120, 3) := by decide +kernel
theorem dX12_lineOf_367 : decode cX12_lineOf 367 = .ok (.iload 6, 2) := by decide +kernel
theorem dX12_lineOf_369 : decode cX12_lineOf 369 = .ok (.iload 8, 2) := by decide +kernel
theorem dX12_lineOf_371 : decode cX12_lineOf 371 = .ok (.ifCond .eq 7, 3) := by decide +kernel
theorem dX12_lineOf_374 : decode cX12_lineOf 374 = .ok (.iconst 1, 1) := by decide +kernel
theorem dX12_lineOf_375 : decode cX12_lineOf 375 = .ok (.goto 4, 3) := by decide +kernel
theorem dX12_lineOf_378 : decode cX12_lineOf 378 = .ok (.iconst 0, 1) := by decide +kernel
theorem dX12_lineOf_379 : decode cX12_lineOf 379 = .ok (.iastore, 1) := by decide +kernel
theorem dX12_lineOf_380 : decode cX12_lineOf 380 = .ok (.iinc 5 1, 3) := by decide +kernel
theorem dX12_lineOf_383 : decode cX12_lineOf 383 = .ok (.goto (-356), 3) := by decide +kernel
theorem dX12_lineOf_386 : decode cX12_lineOf 386 = .ok (.aload_n 0, 1) := by decide +kernel
theorem dX12_lineOf_387 : decode cX12_lineOf 387 = .ok (.getfield 120, 3) := by decide +kernel
theorem dX12_lineOf_390 : decode cX12_lineOf 390 = .ok (.iload 4, 2) := by decide +kernel
theorem dX12_lineOf_392 : decode cX12_lineOf 392 = .ok (.iaload, 1) := by decide +kernel
theorem dX12_lineOf_393 : decode cX12_lineOf 393 = .ok (.iconst 1, 1) := by decide +kernel
theorem dX12_lineOf_394 : decode cX12_lineOf 394 = .ok (.if_icmp .ne 5, 3) := by decide +kernel
theorem dX12_lineOf_397 : decode cX12_lineOf 397 = .ok (.iload_n 3, 1) := by decide +kernel
theorem dX12_lineOf_398 : decode cX12_lineOf 398 = .ok (.ireturn, 1) := by decide +kernel
theorem dX12_lineOf_399 : decode cX12_lineOf 399 = .ok (.iinc 3 1, 3) := by decide +kernel
theorem dX12_lineOf_402 : decode cX12_lineOf 402 = .ok (.goto (-389), 3) := by decide +kernel
theorem dX12_lineOf_405 : decode cX12_lineOf 405 = .ok (.iconst (-1), 1) := by decide +kernel
theorem dX12_lineOf_406 : decode cX12_lineOf 406 = .ok (.ireturn, 1) := by decide +kernel
theorem dX12_kindOf_0 : decode cX12_kindOf 0 = .ok (.aload_n 0, 1) := by decide +kernel
theorem dX12_kindOf_1 : decode cX12_kindOf 1 = .ok (.iload_n 1, 1) := by decide +kernel
theorem dX12_kindOf_2 : decode cX12_kindOf 2 = .ok (.invokevirtual 353, 3) := by decide +kernel
theorem dX12_kindOf_5 : decode cX12_kindOf 5 = .ok (.istore_n 2, 1) := by decide +kernel
theorem dX12_kindOf_6 : decode cX12_kindOf 6 = .ok (.iload_n 2, 1) := by decide +kernel
theorem dX12_kindOf_7 : decode cX12_kindOf 7 = .ok (.ifCond .ge 7, 3) := by decide +kernel
theorem dX12_kindOf_10 : decode cX12_kindOf 10 = .ok (.iconst (-1), 1) := by decide +kernel
theorem dX12_kindOf_11 : decode cX12_kindOf 11 = .ok (.goto 9, 3) := by decide +kernel
theorem dX12_kindOf_14 : decode cX12_kindOf 14 = .ok (.aload_n 0, 1) := by decide +kernel
theorem dX12_kindOf_15 : decode cX12_kindOf 15 = .ok (.getfield 84, 3) := by decide +kernel
theorem dX12_kindOf_18 : decode cX12_kindOf 18 = .ok (.iload_n 2, 1) := by decide +kernel
theorem dX12_kindOf_19 : decode cX12_kindOf 19 = .ok (.iaload, 1) := by decide +kernel
theorem dX12_kindOf_20 : decode cX12_kindOf 20 = .ok (.ireturn, 1) := by decide +kernel
theorem dX12_told_0 : decode cX12_told 0 = .ok (.aload_n 0, 1) := by decide +kernel
theorem dX12_told_1 : decode cX12_told 1 = .ok (.iconst 0, 1) := by decide +kernel
theorem dX12_told_2 : decode cX12_told 2 = .ok (.putfield 171, 3) := by decide +kernel
theorem dX12_told_5 : decode cX12_told 5 = .ok (.aload_n 0, 1) := by decide +kernel
theorem dX12_told_6 : decode cX12_told 6 = .ok (.iload_n 1, 1) := by decide +kernel
theorem dX12_told_7 : decode cX12_told 7 = .ok (.invokevirtual 251, 3) := by decide +kernel
theorem dX12_told_10 : decode cX12_told 10 = .ok (.ifCond .ne 6, 3) := by decide +kernel
theorem dX12_told_13 : decode cX12_told 13 = .ok (.bipush (-2), 2) := by decide +kernel
theorem dX12_told_15 : decode cX12_told 15 = .ok (.ireturn, 1) := by decide +kernel
theorem dX12_told_16 : decode cX12_told 16 = .ok (.iload_n 2, 1) := by decide +kernel
theorem dX12_told_17 : decode cX12_told 17 = .ok (.tableswitch 68 0 4 #[35, 42, 49, 56, 62], 35) := by decide +kernel
theorem dX12_told_52 : decode cX12_told 52 = .ok (.aload_n 0, 1) := by decide +kernel
theorem dX12_told_53 : decode cX12_told 53 = .ok (.getfield 62, 3) := by decide +kernel
theorem dX12_told_56 : decode cX12_told 56 = .ok (.iload_n 1, 1) := by decide +kernel
theorem dX12_told_57 : decode cX12_told 57 = .ok (.iaload, 1) := by decide +kernel
theorem dX12_told_58 : decode cX12_told 58 = .ok (.ireturn, 1) := by decide +kernel
theorem dX12_told_59 : decode cX12_told 59 = .ok (.aload_n 0, 1) := by decide +kernel
theorem dX12_told_60 : decode cX12_told 60 = .ok (.getfield 65, 3) := by decide +kernel
theorem dX12_told_63 : decode cX12_told 63 = .ok (.iload_n 1, 1) := by decide +kernel
theorem dX12_told_64 : decode cX12_told 64 = .ok (.iaload, 1) := by decide +kernel
theorem dX12_told_65 : decode cX12_told 65 = .ok (.ireturn, 1) := by decide +kernel
theorem dX12_told_66 : decode cX12_told 66 = .ok (.aload_n 0, 1) := by decide +kernel
theorem dX12_told_67 : decode cX12_told 67 = .ok (.getfield 68, 3) := by decide +kernel
theorem dX12_told_70 : decode cX12_told 70 = .ok (.iload_n 1, 1) := by decide +kernel
theorem dX12_told_71 : decode cX12_told 71 = .ok (.iaload, 1) := by decide +kernel
theorem dX12_told_72 : decode cX12_told 72 = .ok (.ireturn, 1) := by decide +kernel
theorem dX12_told_73 : decode cX12_told 73 = .ok (.aload_n 0, 1) := by decide +kernel
theorem dX12_told_74 : decode cX12_told 74 = .ok (.iload_n 1, 1) := by decide +kernel
theorem dX12_told_75 : decode cX12_told 75 = .ok (.invokevirtual 356, 3) := by decide +kernel
theorem dX12_told_78 : decode cX12_told 78 = .ok (.ireturn, 1) := by decide +kernel
theorem dX12_told_79 : decode cX12_told 79 = .ok (.aload_n 0, 1) := by decide +kernel
theorem dX12_told_80 : decode cX12_told 80 = .ok (.iload_n 1, 1) := by decide +kernel
theorem dX12_told_81 : decode cX12_told 81 = .ok (.invokevirtual 353, 3) := by decide +kernel
theorem dX12_told_84 : decode cX12_told 84 = .ok (.ireturn, 1) := by decide +kernel
theorem dX12_told_85 : decode cX12_told 85 = .ok (.bipush (-2), 2) := by decide +kernel
theorem dX12_told_87 : decode cX12_told 87 = .ok (.ireturn, 1) := by decide +kernel
theorem dX12_size_0 : decode cX12_size 0 = .ok (.iload_n 0, 1) := by decide +kernel
theorem dX12_size_1 : decode cX12_size 1 = .ok (.ifCond .ge 8, 3) := by decide +kernel
theorem dX12_size_4 : decode cX12_size 4 = .ok (.iload_n 0, 1) := by decide +kernel
theorem dX12_size_5 : decode cX12_size 5 = .ok (.ineg, 1) := by decide +kernel
theorem dX12_size_6 : decode cX12_size 6 = .ok (.goto 4, 3) := by decide +kernel
theorem dX12_size_9 : decode cX12_size 9 = .ok (.iload_n 0, 1) := by decide +kernel
theorem dX12_size_10 : decode cX12_size 10 = .ok (.ireturn, 1) := by decide +kernel
theorem dX12_slope_0 : decode cX12_slope 0 = .ok (.iload_n 1, 1) := by decide +kernel
theorem dX12_slope_1 : decode cX12_slope 1 = .ok (.aload_n 0, 1) := by decide +kernel
theorem dX12_slope_2 : decode cX12_slope 2 = .ok (.getfield 13, 3) := by decide +kernel
theorem dX12_slope_5 : decode cX12_slope 5 = .ok (.irem, 1) := by decide +kernel
theorem dX12_slope_6 : decode cX12_slope 6 = .ok (.istore_n 2, 1) := by decide +kernel
theorem dX12_slope_7 : decode cX12_slope 7 = .ok (.iconst 0, 1) := by decide +kernel
theorem dX12_slope_8 : decode cX12_slope 8 = .ok (.istore_n 3, 1) := by decide +kernel
theorem dX12_slope_9 : decode cX12_slope 9 = .ok (.iconst 0, 1) := by decide +kernel
theorem dX12_slope_10 : decode cX12_slope 10 = .ok (.istore 4, 2) := by decide +kernel
theorem dX12_slope_12 : decode cX12_slope 12 = .ok (.iload 4, 2) := by decide +kernel
theorem dX12_slope_14 : decode cX12_slope 14 = .ok (.iconst 4, 1) := by decide +kernel
theorem dX12_slope_15 : decode cX12_slope 15 = .ok (.if_icmp .ge 121, 3) := by decide +kernel
theorem dX12_slope_18 : decode cX12_slope 18 = .ok (.iload 4, 2) := by decide +kernel
theorem dX12_slope_20 : decode cX12_slope 20 = .ok (.ifCond .ne 17, 3) := by decide +kernel
theorem dX12_slope_23 : decode cX12_slope 23 = .ok (.iload_n 2, 1) := by decide +kernel
theorem dX12_slope_24 : decode cX12_slope 24 = .ok (.ifCond .le 9, 3) := by decide +kernel
theorem dX12_slope_27 : decode cX12_slope 27 = .ok (.iload_n 1, 1) := by decide +kernel
theorem dX12_slope_28 : decode cX12_slope 28 = .ok (.iconst 1, 1) := by decide +kernel
theorem dX12_slope_29 : decode cX12_slope 29 = .ok (.isub, 1) := by decide +kernel
theorem dX12_slope_30 : decode cX12_slope 30 = .ok (.goto 54, 3) := by decide +kernel
theorem dX12_slope_33 : decode cX12_slope 33 = .ok (.iconst (-1), 1) := by decide +kernel
theorem dX12_slope_34 : decode cX12_slope 34 = .ok (.goto 50, 3) := by decide +kernel
theorem dX12_slope_37 : decode cX12_slope 37 = .ok (.iload 4, 2) := by decide +kernel
theorem dX12_slope_39 : decode cX12_slope 39 = .ok (.iconst 1, 1) := by decide +kernel
theorem dX12_slope_40 : decode cX12_slope 40 = .ok (.if_icmp .ne 23, 3) := by decide +kernel
theorem dX12_slope_43 : decode cX12_slope 43 = .ok (.iload_n 2, 1) := by decide +kernel
theorem dX12_slope_44 : decode cX12_slope 44 = .ok (.aload_n 0, 1) := by decide +kernel
theorem dX12_slope_45 : decode cX12_slope 45 = .ok (.getfield 13, 3) := by decide +kernel
theorem dX12_slope_48 : decode cX12_slope 48 = .ok (.iconst 1, 1) := by decide +kernel
theorem dX12_slope_49 : decode cX12_slope 49 = .ok (.isub, 1) := by decide +kernel
theorem dX12_slope_50 : decode cX12_slope 50 = .ok (.if_icmp .ge 9, 3) := by decide +kernel
theorem dX12_slope_53 : decode cX12_slope 53 = .ok (.iload_n 1, 1) := by decide +kernel
theorem dX12_slope_54 : decode cX12_slope 54 = .ok (.iconst 1, 1) := by decide +kernel
theorem dX12_slope_55 : decode cX12_slope 55 = .ok (.iadd, 1) := by decide +kernel
theorem dX12_slope_56 : decode cX12_slope 56 = .ok (.goto 28, 3) := by decide +kernel
theorem dX12_slope_59 : decode cX12_slope 59 = .ok (.iconst (-1), 1) := by decide +kernel
theorem dX12_slope_60 : decode cX12_slope 60 = .ok (.goto 24, 3) := by decide +kernel
theorem dX12_slope_63 : decode cX12_slope 63 = .ok (.iload 4, 2) := by decide +kernel
theorem dX12_slope_65 : decode cX12_slope 65 = .ok (.iconst 2, 1) := by decide +kernel
theorem dX12_slope_66 : decode cX12_slope 66 = .ok (.if_icmp .ne 12, 3) := by decide +kernel
theorem dX12_slope_69 : decode cX12_slope 69 = .ok (.iload_n 1, 1) := by decide +kernel
theorem dX12_slope_70 : decode cX12_slope 70 = .ok (.aload_n 0, 1) := by decide +kernel
theorem dX12_slope_71 : decode cX12_slope 71 = .ok (.getfield 13, 3) := by decide +kernel
theorem dX12_slope_74 : decode cX12_slope 74 = .ok (.isub, 1) := by decide +kernel
theorem dX12_slope_75 : decode cX12_slope 75 = .ok (.goto 9, 3) := by decide +kernel
theorem dX12_slope_78 : decode cX12_slope 78 = .ok (.iload_n 1, 1) := by decide +kernel
theorem dX12_slope_79 : decode cX12_slope 79 = .ok (.aload_n 0, 1) := by decide +kernel
theorem dX12_slope_80 : decode cX12_slope 80 = .ok (.getfield 13, 3) := by decide +kernel
theorem dX12_slope_83 : decode cX12_slope 83 = .ok (.iadd, 1) := by decide +kernel
theorem dX12_slope_84 : decode cX12_slope 84 = .ok (.istore 5, 2) := by decide +kernel
theorem dX12_slope_86 : decode cX12_slope 86 = .ok (.aload_n 0, 1) := by decide +kernel
theorem dX12_slope_87 : decode cX12_slope 87 = .ok (.iload 5, 2) := by decide +kernel
theorem dX12_slope_89 : decode cX12_slope 89 = .ok (.invokevirtual 180, 3) := by decide +kernel
theorem dX12_slope_92 : decode cX12_slope 92 = .ok (.ifCond .ne 6, 3) := by decide +kernel
theorem dX12_slope_95 : decode cX12_slope 95 = .ok (.goto 35, 3) := by decide +kernel
theorem dX12_slope_98 : decode cX12_slope 98 = .ok (.aload_n 0, 1) := by decide +kernel
theorem dX12_slope_99 : decode cX12_slope 99 = .ok (.getfield 20, 3) := by decide +kernel
theorem dX12_slope_102 : decode cX12_slope 102 = .ok (.iload_n 1, 1) := by decide +kernel
theorem dX12_slope_103 : decode cX12_slope 103 = .ok (.iaload, 1) := by decide +kernel
theorem dX12_slope_104 : decode cX12_slope 104 = .ok (.aload_n 0, 1) := by decide +kernel
theorem dX12_slope_105 : decode cX12_slope 105 = .ok (.getfield 20, 3) := by decide +kernel
theorem dX12_slope_108 : decode cX12_slope 108 = .ok (.iload 5, 2) := by decide +kernel
theorem dX12_slope_110 : decode cX12_slope 110 = .ok (.iaload, 1) := by decide +kernel
theorem dX12_slope_111 : decode cX12_slope 111 = .ok (.isub, 1) := by decide +kernel
theorem dX12_slope_112 : decode cX12_slope 112 = .ok (.invokestatic 359, 3) := by decide +kernel
theorem dX12_slope_115 : decode cX12_slope 115 = .ok (.istore 6, 2) := by decide +kernel
theorem dX12_slope_117 : decode cX12_slope 117 = .ok (.iload 6, 2) := by decide +kernel
theorem dX12_slope_119 : decode cX12_slope 119 = .ok (.iload_n 3, 1) := by decide +kernel
theorem dX12_slope_120 : decode cX12_slope 120 = .ok (.if_icmp .le 8, 3) := by decide +kernel
theorem dX12_slope_123 : decode cX12_slope 123 = .ok (.iload 6, 2) := by decide +kernel
theorem dX12_slope_125 : decode cX12_slope 125 = .ok (.goto 4, 3) := by decide +kernel
theorem dX12_slope_128 : decode cX12_slope 128 = .ok (.iload_n 3, 1) := by decide +kernel
theorem dX12_slope_129 : decode cX12_slope 129 = .ok (.istore_n 3, 1) := by decide +kernel
theorem dX12_slope_130 : decode cX12_slope 130 = .ok (.iinc 4 1, 3) := by decide +kernel
theorem dX12_slope_133 : decode cX12_slope 133 = .ok (.goto (-121), 3) := by decide +kernel
theorem dX12_slope_136 : decode cX12_slope 136 = .ok (.iload_n 3, 1) := by decide +kernel
theorem dX12_slope_137 : decode cX12_slope 137 = .ok (.ireturn, 1) := by decide +kernel
theorem dX12_steep_0 : decode cX12_steep 0 = .ok (.aload_n 0, 1) := by decide +kernel
theorem dX12_steep_1 : decode cX12_steep 1 = .ok (.iload_n 1, 1) := by decide +kernel
theorem dX12_steep_2 : decode cX12_steep 2 = .ok (.invokevirtual 362, 3) := by decide +kernel
theorem dX12_steep_5 : decode cX12_steep 5 = .ok (.aload_n 0, 1) := by decide +kernel
theorem dX12_steep_6 : decode cX12_steep 6 = .ok (.getfield 35, 3) := by decide +kernel
theorem dX12_steep_9 : decode cX12_steep 9 = .ok (.if_icmp .ge 7, 3) := by decide +kernel
theorem dX12_steep_12 : decode cX12_steep 12 = .ok (.iconst 0, 1) := by decide +kernel
theorem dX12_steep_13 : decode cX12_steep 13 = .ok (.goto 20, 3) := by decide +kernel
theorem dX12_steep_16 : decode cX12_steep 16 = .ok (.aload_n 0, 1) := by decide +kernel
theorem dX12_steep_17 : decode cX12_steep 17 = .ok (.iload_n 1, 1) := by decide +kernel
theorem dX12_steep_18 : decode cX12_steep 18 = .ok (.invokevirtual 362, 3) := by decide +kernel
theorem dX12_steep_21 : decode cX12_steep 21 = .ok (.aload_n 0, 1) := by decide +kernel
theorem dX12_steep_22 : decode cX12_steep 22 = .ok (.getfield 38, 3) := by decide +kernel
theorem dX12_steep_25 : decode cX12_steep 25 = .ok (.if_icmp .ge 7, 3) := by decide +kernel
theorem dX12_steep_28 : decode cX12_steep 28 = .ok (.iconst 1, 1) := by decide +kernel
theorem dX12_steep_29 : decode cX12_steep 29 = .ok (.goto 4, 3) := by decide +kernel
theorem dX12_steep_32 : decode cX12_steep 32 = .ok (.iconst 2, 1) := by decide +kernel
theorem dX12_steep_33 : decode cX12_steep 33 = .ok (.ireturn, 1) := by decide +kernel
theorem dX12_feel_0 : decode cX12_feel 0 = .ok (.aload_n 0, 1) := by decide +kernel
theorem dX12_feel_1 : decode cX12_feel 1 = .ok (.getfield 26, 3) := by decide +kernel
theorem dX12_feel_4 : decode cX12_feel 4 = .ok (.iload_n 1, 1) := by decide +kernel
theorem dX12_feel_5 : decode cX12_feel 5 = .ok (.iaload, 1) := by decide +kernel
theorem dX12_feel_6 : decode cX12_feel 6 = .ok (.ifCond .ge 7, 3) := by decide +kernel
theorem dX12_feel_9 : decode cX12_feel 9 = .ok (.iconst (-1), 1) := by decide +kernel
theorem dX12_feel_10 : decode cX12_feel 10 = .ok (.goto 38, 3) := by decide +kernel
theorem dX12_feel_13 : decode cX12_feel 13 = .ok (.aload_n 0, 1) := by decide +kernel
theorem dX12_feel_14 : decode cX12_feel 14 = .ok (.getfield 26, 3) := by decide +kernel
theorem dX12_feel_17 : decode cX12_feel 17 = .ok (.iload_n 1, 1) := by decide +kernel
theorem dX12_feel_18 : decode cX12_feel 18 = .ok (.iaload, 1) := by decide +kernel
theorem dX12_feel_19 : decode cX12_feel 19 = .ok (.aload_n 0, 1) := by decide +kernel
theorem dX12_feel_20 : decode cX12_feel 20 = .ok (.getfield 41, 3) := by decide +kernel
theorem dX12_feel_23 : decode cX12_feel 23 = .ok (.if_icmp .ge 7, 3) := by decide +kernel
theorem dX12_feel_26 : decode cX12_feel 26 = .ok (.iconst 0, 1) := by decide +kernel
theorem dX12_feel_27 : decode cX12_feel 27 = .ok (.goto 21, 3) := by decide +kernel
theorem dX12_feel_30 : decode cX12_feel 30 = .ok (.aload_n 0, 1) := by decide +kernel
theorem dX12_feel_31 : decode cX12_feel 31 = .ok (.getfield 26, 3) := by decide +kernel
theorem dX12_feel_34 : decode cX12_feel 34 = .ok (.iload_n 1, 1) := by decide +kernel
theorem dX12_feel_35 : decode cX12_feel 35 = .ok (.iaload, 1) := by decide +kernel
theorem dX12_feel_36 : decode cX12_feel 36 = .ok (.aload_n 0, 1) := by decide +kernel
theorem dX12_feel_37 : decode cX12_feel 37 = .ok (.getfield 44, 3) := by decide +kernel
theorem dX12_feel_40 : decode cX12_feel 40 = .ok (.if_icmp .ge 7, 3) := by decide +kernel
theorem dX12_feel_43 : decode cX12_feel 43 = .ok (.iconst 1, 1) := by decide +kernel
theorem dX12_feel_44 : decode cX12_feel 44 = .ok (.goto 4, 3) := by decide +kernel
theorem dX12_feel_47 : decode cX12_feel 47 = .ok (.iconst 2, 1) := by decide +kernel
theorem dX12_feel_48 : decode cX12_feel 48 = .ok (.ireturn, 1) := by decide +kernel
theorem dX12_fails_0 : decode cX12_fails 0 = .ok (.aload_n 0, 1) := by decide +kernel
theorem dX12_fails_1 : decode cX12_fails 1 = .ok (.iload_n 1, 1) := by decide +kernel
theorem dX12_fails_2 : decode cX12_fails 2 = .ok (.putfield 171, 3) := by decide +kernel
theorem dX12_fails_5 : decode cX12_fails 5 = .ok (.iconst 0, 1) := by decide +kernel
theorem dX12_fails_6 : decode cX12_fails 6 = .ok (.ireturn, 1) := by decide +kernel
theorem dX12_look_0 : decode cX12_look 0 = .ok (.aload_n 0, 1) := by decide +kernel
theorem dX12_look_1 : decode cX12_look 1 = .ok (.iconst 0, 1) := by decide +kernel
theorem dX12_look_2 : decode cX12_look 2 = .ok (.putfield 171, 3) := by decide +kernel
theorem dX12_look_5 : decode cX12_look 5 = .ok (.aload_n 0, 1) := by decide +kernel
theorem dX12_look_6 : decode cX12_look 6 = .ok (.iload_n 1, 1) := by decide +kernel
theorem dX12_look_7 : decode cX12_look 7 = .ok (.invokevirtual 180, 3) := by decide +kernel
theorem dX12_look_10 : decode cX12_look 10 = .ok (.ifCond .ne 9, 3) := by decide +kernel
theorem dX12_look_13 : decode cX12_look 13 = .ok (.aload_n 0, 1) := by decide +kernel
theorem dX12_look_14 : decode cX12_look 14 = .ok (.iconst 1, 1) := by decide +kernel
theorem dX12_look_15 : decode cX12_look 15 = .ok (.invokevirtual 365, 3) := by decide +kernel
theorem dX12_look_18 : decode cX12_look 18 = .ok (.ireturn, 1) := by decide +kernel
theorem dX12_look_19 : decode cX12_look 19 = .ok (.iload_n 2, 1) := by decide +kernel
theorem dX12_look_20 : decode cX12_look 20 = .ok (.tableswitch 101 0 7 #[48, 54, 60, 66, 73, 80, 87, 94], 48) := by decide +kernel
theorem dX12_look_68 : decode cX12_look 68 = .ok (.aload_n 0, 1) := by decide +kernel
theorem dX12_look_69 : decode cX12_look 69 = .ok (.iload_n 1, 1) := by decide +kernel
theorem dX12_look_70 : decode cX12_look 70 = .ok (.invokevirtual 362, 3) := by decide +kernel
theorem dX12_look_73 : decode cX12_look 73 = .ok (.ireturn, 1) := by decide +kernel
theorem dX12_look_74 : decode cX12_look 74 = .ok (.aload_n 0, 1) := by decide +kernel
theorem dX12_look_75 : decode cX12_look 75 = .ok (.iload_n 1, 1) := by decide +kernel
theorem dX12_look_76 : decode cX12_look 76 = .ok (.invokevirtual 368, 3) := by decide +kernel
theorem dX12_look_79 : decode cX12_look 79 = .ok (.ireturn, 1) := by decide +kernel
theorem dX12_look_80 : decode cX12_look 80 = .ok (.aload_n 0, 1) := by decide +kernel
theorem dX12_look_81 : decode cX12_look 81 = .ok (.iload_n 1, 1) := by decide +kernel
theorem dX12_look_82 : decode cX12_look 82 = .ok (.invokevirtual 371, 3) := by decide +kernel
theorem dX12_look_85 : decode cX12_look 85 = .ok (.ireturn, 1) := by decide +kernel
theorem dX12_look_86 : decode cX12_look 86 = .ok (.aload_n 0, 1) := by decide +kernel
theorem dX12_look_87 : decode cX12_look 87 = .ok (.getfield 20, 3) := by decide +kernel
theorem dX12_look_90 : decode cX12_look 90 = .ok (.iload_n 1, 1) := by decide +kernel
theorem dX12_look_91 : decode cX12_look 91 = .ok (.iaload, 1) := by decide +kernel
theorem dX12_look_92 : decode cX12_look 92 = .ok (.ireturn, 1) := by decide +kernel
theorem dX12_look_93 : decode cX12_look 93 = .ok (.aload_n 0, 1) := by decide +kernel
theorem dX12_look_94 : decode cX12_look 94 = .ok (.getfield 23, 3) := by decide +kernel
theorem dX12_look_97 : decode cX12_look 97 = .ok (.iload_n 1, 1) := by decide +kernel
theorem dX12_look_98 : decode cX12_look 98 = .ok (.iaload, 1) := by decide +kernel
theorem dX12_look_99 : decode cX12_look 99 = .ok (.ireturn, 1) := by decide +kernel
theorem dX12_look_100 : decode cX12_look 100 = .ok (.aload_n 0, 1) := by decide +kernel
theorem dX12_look_101 : decode cX12_look 101 = .ok (.getfield 26, 3) := by decide +kernel
theorem dX12_look_104 : decode cX12_look 104 = .ok (.iload_n 1, 1) := by decide +kernel
theorem dX12_look_105 : decode cX12_look 105 = .ok (.iaload, 1) := by decide +kernel
theorem dX12_look_106 : decode cX12_look 106 = .ok (.ireturn, 1) := by decide +kernel
theorem dX12_look_107 : decode cX12_look 107 = .ok (.aload_n 0, 1) := by decide +kernel
theorem dX12_look_108 : decode cX12_look 108 = .ok (.getfield 29, 3) := by decide +kernel
theorem dX12_look_111 : decode cX12_look 111 = .ok (.iload_n 1, 1) := by decide +kernel
theorem dX12_look_112 : decode cX12_look 112 = .ok (.iaload, 1) := by decide +kernel
theorem dX12_look_113 : decode cX12_look 113 = .ok (.ireturn, 1) := by decide +kernel
theorem dX12_look_114 : decode cX12_look 114 = .ok (.aload_n 0, 1) := by decide +kernel
theorem dX12_look_115 : decode cX12_look 115 = .ok (.getfield 32, 3) := by decide +kernel
theorem dX12_look_118 : decode cX12_look 118 = .ok (.iload_n 1, 1) := by decide +kernel
theorem dX12_look_119 : decode cX12_look 119 = .ok (.iaload, 1) := by decide +kernel
theorem dX12_look_120 : decode cX12_look 120 = .ok (.ireturn, 1) := by decide +kernel
theorem dX12_look_121 : decode cX12_look 121 = .ok (.aload_n 0, 1) := by decide +kernel
theorem dX12_look_122 : decode cX12_look 122 = .ok (.iconst 2, 1) := by decide +kernel
theorem dX12_look_123 : decode cX12_look 123 = .ok (.invokevirtual 365, 3) := by decide +kernel
theorem dX12_look_126 : decode cX12_look 126 = .ok (.ireturn, 1) := by decide +kernel
theorem dX12_far_0 : decode cX12_far 0 = .ok (.iload_n 1, 1) := by decide +kernel
theorem dX12_far_1 : decode cX12_far 1 = .ok (.aload_n 0, 1) := by decide +kernel
theorem dX12_far_2 : decode cX12_far 2 = .ok (.getfield 13, 3) := by decide +kernel
theorem dX12_far_5 : decode cX12_far 5 = .ok (.irem, 1) := by decide +kernel
theorem dX12_far_6 : decode cX12_far 6 = .ok (.iload_n 2, 1) := by decide +kernel
theorem dX12_far_7 : decode cX12_far 7 = .ok (.aload_n 0, 1) := by decide +kernel
theorem dX12_far_8 : decode cX12_far 8 = .ok (.getfield 13, 3) := by decide +kernel
theorem dX12_far_11 : decode cX12_far 11 = .ok (.irem, 1) := by decide +kernel
theorem dX12_far_12 : decode cX12_far 12 = .ok (.isub, 1) := by decide +kernel
theorem dX12_far_13 : decode cX12_far 13 = .ok (.invokestatic 359, 3) := by decide +kernel
theorem dX12_far_16 : decode cX12_far 16 = .ok (.istore_n 3, 1) := by decide +kernel
theorem dX12_far_17 : decode cX12_far 17 = .ok (.iload_n 1, 1) := by decide +kernel
theorem dX12_far_18 : decode cX12_far 18 = .ok (.aload_n 0, 1) := by decide +kernel
theorem dX12_far_19 : decode cX12_far 19 = .ok (.getfield 13, 3) := by decide +kernel
theorem dX12_far_22 : decode cX12_far 22 = .ok (.idiv, 1) := by decide +kernel
theorem dX12_far_23 : decode cX12_far 23 = .ok (.iload_n 2, 1) := by decide +kernel
theorem dX12_far_24 : decode cX12_far 24 = .ok (.aload_n 0, 1) := by decide +kernel
theorem dX12_far_25 : decode cX12_far 25 = .ok (.getfield 13, 3) := by decide +kernel
theorem dX12_far_28 : decode cX12_far 28 = .ok (.idiv, 1) := by decide +kernel
theorem dX12_far_29 : decode cX12_far 29 = .ok (.isub, 1) := by decide +kernel
theorem dX12_far_30 : decode cX12_far 30 = .ok (.invokestatic 359, 3) := by decide +kernel
theorem dX12_far_33 : decode cX12_far 33 = .ok (.istore 4, 2) := by decide +kernel
theorem dX12_far_35 : decode cX12_far 35 = .ok (.iload_n 3, 1) := by decide +kernel
theorem dX12_far_36 : decode cX12_far 36 = .ok (.iload 4, 2) := by decide +kernel
theorem dX12_far_38 : decode cX12_far 38 = .ok (.if_icmp .le 7, 3) := by decide +kernel
theorem dX12_far_41 : decode cX12_far 41 = .ok (.iload_n 3, 1) := by decide +kernel
theorem dX12_far_42 : decode cX12_far 42 = .ok (.goto 5, 3) := by decide +kernel
theorem dX12_far_45 : decode cX12_far 45 = .ok (.iload 4, 2) := by decide +kernel
theorem dX12_far_47 : decode cX12_far 47 = .ok (.ireturn, 1) := by decide +kernel
theorem dX12_alike_0 : decode cX12_alike 0 = .ok (.aload_n 0, 1) := by decide +kernel
theorem dX12_alike_1 : decode cX12_alike 1 = .ok (.iload_n 1, 1) := by decide +kernel
theorem dX12_alike_2 : decode cX12_alike 2 = .ok (.iload_n 2, 1) := by decide +kernel
theorem dX12_alike_3 : decode cX12_alike 3 = .ok (.invokevirtual 374, 3) := by decide +kernel
theorem dX12_alike_6 : decode cX12_alike 6 = .ok (.bipush 6, 2) := by decide +kernel
theorem dX12_alike_8 : decode cX12_alike 8 = .ok (.if_icmp .ge 15, 3) := by decide +kernel
theorem dX12_alike_11 : decode cX12_alike 11 = .ok (.bipush 6, 2) := by decide +kernel
theorem dX12_alike_13 : decode cX12_alike 13 = .ok (.aload_n 0, 1) := by decide +kernel
theorem dX12_alike_14 : decode cX12_alike 14 = .ok (.iload_n 1, 1) := by decide +kernel
theorem dX12_alike_15 : decode cX12_alike 15 = .ok (.iload_n 2, 1) := by decide +kernel
theorem dX12_alike_16 : decode cX12_alike 16 = .ok (.invokevirtual 374, 3) := by decide +kernel
theorem dX12_alike_19 : decode cX12_alike 19 = .ok (.isub, 1) := by decide +kernel
theorem dX12_alike_20 : decode cX12_alike 20 = .ok (.goto 4, 3) := by decide +kernel
theorem dX12_alike_23 : decode cX12_alike 23 = .ok (.iconst 0, 1) := by decide +kernel
theorem dX12_alike_24 : decode cX12_alike 24 = .ok (.istore_n 3, 1) := by decide +kernel
theorem dX12_alike_25 : decode cX12_alike 25 = .ok (.iload_n 3, 1) := by decide +kernel
theorem dX12_alike_26 : decode cX12_alike 26 = .ok (.aload_n 0, 1) := by decide +kernel
theorem dX12_alike_27 : decode cX12_alike 27 = .ok (.getfield 23, 3) := by decide +kernel
theorem dX12_alike_30 : decode cX12_alike 30 = .ok (.iload_n 1, 1) := by decide +kernel
theorem dX12_alike_31 : decode cX12_alike 31 = .ok (.iaload, 1) := by decide +kernel
theorem dX12_alike_32 : decode cX12_alike 32 = .ok (.aload_n 0, 1) := by decide +kernel
theorem dX12_alike_33 : decode cX12_alike 33 = .ok (.getfield 23, 3) := by decide +kernel
theorem dX12_alike_36 : decode cX12_alike 36 = .ok (.iload_n 2, 1) := by decide +kernel
theorem dX12_alike_37 : decode cX12_alike 37 = .ok (.iaload, 1) := by decide +kernel
theorem dX12_alike_38 : decode cX12_alike 38 = .ok (.if_icmp .ne 7, 3) := by decide +kernel
theorem dX12_alike_41 : decode cX12_alike 41 = .ok (.iconst 4, 1) := by decide +kernel
theorem dX12_alike_42 : decode cX12_alike 42 = .ok (.goto 4, 3) := by decide +kernel
theorem dX12_alike_45 : decode cX12_alike 45 = .ok (.iconst 0, 1) := by decide +kernel
theorem dX12_alike_46 : decode cX12_alike 46 = .ok (.iadd, 1) := by decide +kernel
theorem dX12_alike_47 : decode cX12_alike 47 = .ok (.istore_n 3, 1) := by decide +kernel
theorem dX12_alike_48 : decode cX12_alike 48 = .ok (.iload_n 3, 1) := by decide +kernel
theorem dX12_alike_49 : decode cX12_alike 49 = .ok (.aload_n 0, 1) := by decide +kernel
theorem dX12_alike_50 : decode cX12_alike 50 = .ok (.iload_n 1, 1) := by decide +kernel
theorem dX12_alike_51 : decode cX12_alike 51 = .ok (.invokevirtual 368, 3) := by decide +kernel
theorem dX12_alike_54 : decode cX12_alike 54 = .ok (.aload_n 0, 1) := by decide +kernel
theorem dX12_alike_55 : decode cX12_alike 55 = .ok (.iload_n 2, 1) := by decide +kernel
theorem dX12_alike_56 : decode cX12_alike 56 = .ok (.invokevirtual 368, 3) := by decide +kernel
theorem dX12_alike_59 : decode cX12_alike 59 = .ok (.if_icmp .ne 7, 3) := by decide +kernel
theorem dX12_alike_62 : decode cX12_alike 62 = .ok (.iconst 2, 1) := by decide +kernel
theorem dX12_alike_63 : decode cX12_alike 63 = .ok (.goto 4, 3) := by decide +kernel
theorem dX12_alike_66 : decode cX12_alike 66 = .ok (.iconst 0, 1) := by decide +kernel
theorem dX12_alike_67 : decode cX12_alike 67 = .ok (.iadd, 1) := by decide +kernel
theorem dX12_alike_68 : decode cX12_alike 68 = .ok (.istore_n 3, 1) := by decide +kernel
theorem dX12_alike_69 : decode cX12_alike 69 = .ok (.iload_n 3, 1) := by decide +kernel
theorem dX12_alike_70 : decode cX12_alike 70 = .ok (.aload_n 0, 1) := by decide +kernel
theorem dX12_alike_71 : decode cX12_alike 71 = .ok (.iload_n 1, 1) := by decide +kernel
theorem dX12_alike_72 : decode cX12_alike 72 = .ok (.invokevirtual 371, 3) := by decide +kernel
theorem dX12_alike_75 : decode cX12_alike 75 = .ok (.ifCond .lt 20, 3) := by decide +kernel
theorem dX12_alike_78 : decode cX12_alike 78 = .ok (.aload_n 0, 1) := by decide +kernel
theorem dX12_alike_79 : decode cX12_alike 79 = .ok (.iload_n 1, 1) := by decide +kernel
theorem dX12_alike_80 : decode cX12_alike 80 = .ok (.invokevirtual 371, 3) := by decide +kernel
theorem dX12_alike_83 : decode cX12_alike 83 = .ok (.aload_n 0, 1) := by decide +kernel
theorem dX12_alike_84 : decode cX12_alike 84 = .ok (.iload_n 2, 1) := by decide +kernel
theorem dX12_alike_85 : decode cX12_alike 85 = .ok (.invokevirtual 371, 3) := by decide +kernel
theorem dX12_alike_88 : decode cX12_alike 88 = .ok (.if_icmp .ne 7, 3) := by decide +kernel
theorem dX12_alike_91 : decode cX12_alike 91 = .ok (.iconst 2, 1) := by decide +kernel
theorem dX12_alike_92 : decode cX12_alike 92 = .ok (.goto 4, 3) := by decide +kernel
theorem dX12_alike_95 : decode cX12_alike 95 = .ok (.iconst 0, 1) := by decide +kernel
theorem dX12_alike_96 : decode cX12_alike 96 = .ok (.iadd, 1) := by decide +kernel
theorem dX12_alike_97 : decode cX12_alike 97 = .ok (.ireturn, 1) := by decide +kernel
theorem dX12_like_0 : decode cX12_like 0 = .ok (.aload_n 0, 1) := by decide +kernel
theorem dX12_like_1 : decode cX12_like 1 = .ok (.iconst 0, 1) := by decide +kernel
theorem dX12_like_2 : decode cX12_like 2 = .ok (.putfield 171, 3) := by decide +kernel
theorem dX12_like_5 : decode cX12_like 5 = .ok (.aload_n 0, 1) := by decide +kernel
theorem dX12_like_6 : decode cX12_like 6 = .ok (.iload_n 1, 1) := by decide +kernel
theorem dX12_like_7 : decode cX12_like 7 = .ok (.invokevirtual 180, 3) := by decide +kernel
theorem dX12_like_10 : decode cX12_like 10 = .ok (.ifCond .eq 20, 3) := by decide +kernel
theorem dX12_like_13 : decode cX12_like 13 = .ok (.aload_n 0, 1) := by decide +kernel
theorem dX12_like_14 : decode cX12_like 14 = .ok (.iload_n 2, 1) := by decide +kernel
theorem dX12_like_15 : decode cX12_like 15 = .ok (.invokevirtual 180, 3) := by decide +kernel
theorem dX12_like_18 : decode cX12_like 18 = .ok (.ifCond .eq 12, 3) := by decide +kernel
theorem dX12_like_21 : decode cX12_like 21 = .ok (.aload_n 0, 1) := by decide +kernel
theorem dX12_like_22 : decode cX12_like 22 = .ok (.iload_n 1, 1) := by decide +kernel
theorem dX12_like_23 : decode cX12_like 23 = .ok (.iload_n 2, 1) := by decide +kernel
theorem dX12_like_24 : decode cX12_like 24 = .ok (.invokevirtual 377, 3) := by decide +kernel
theorem dX12_like_27 : decode cX12_like 27 = .ok (.goto 4, 3) := by decide +kernel
theorem dX12_like_30 : decode cX12_like 30 = .ok (.iconst (-1), 1) := by decide +kernel
theorem dX12_like_31 : decode cX12_like 31 = .ok (.ireturn, 1) := by decide +kernel
theorem dX12_reads_0 : decode cX12_reads 0 = .ok (.aload_n 0, 1) := by decide +kernel
theorem dX12_reads_1 : decode cX12_reads 1 = .ok (.iconst 0, 1) := by decide +kernel
theorem dX12_reads_2 : decode cX12_reads 2 = .ok (.putfield 171, 3) := by decide +kernel
theorem dX12_reads_5 : decode cX12_reads 5 = .ok (.iload_n 1, 1) := by decide +kernel
theorem dX12_reads_6 : decode cX12_reads 6 = .ok (.ifCond .lt 20, 3) := by decide +kernel
theorem dX12_reads_9 : decode cX12_reads 9 = .ok (.iload_n 1, 1) := by decide +kernel
theorem dX12_reads_10 : decode cX12_reads 10 = .ok (.iconst 2, 1) := by decide +kernel
theorem dX12_reads_11 : decode cX12_reads 11 = .ok (.if_icmp .gt 15, 3) := by decide +kernel
theorem dX12_reads_14 : decode cX12_reads 14 = .ok (.iload_n 2, 1) := by decide +kernel
theorem dX12_reads_15 : decode cX12_reads 15 = .ok (.ifCond .lt 11, 3) := by decide +kernel
theorem dX12_reads_18 : decode cX12_reads 18 = .ok (.iload_n 2, 1) := by decide +kernel
theorem dX12_reads_19 : decode cX12_reads 19 = .ok (.aload_n 0, 1) := by decide +kernel
theorem dX12_reads_20 : decode cX12_reads 20 = .ok (.getfield 330, 3) := by decide +kernel
theorem dX12_reads_23 : decode cX12_reads 23 = .ok (.if_icmp .lt 5, 3) := by decide +kernel
theorem dX12_reads_26 : decode cX12_reads 26 = .ok (.iconst 0, 1) := by decide +kernel
theorem dX12_reads_27 : decode cX12_reads 27 = .ok (.ireturn, 1) := by decide +kernel
theorem dX12_reads_28 : decode cX12_reads 28 = .ok (.iconst 0, 1) := by decide +kernel
theorem dX12_reads_29 : decode cX12_reads 29 = .ok (.istore 7, 2) := by decide +kernel
theorem dX12_reads_31 : decode cX12_reads 31 = .ok (.iconst 0, 1) := by decide +kernel
theorem dX12_reads_32 : decode cX12_reads 32 = .ok (.istore 8, 2) := by decide +kernel
theorem dX12_reads_34 : decode cX12_reads 34 = .ok (.iload 8, 2) := by decide +kernel
theorem dX12_reads_36 : decode cX12_reads 36 = .ok (.iconst 4, 1) := by decide +kernel
theorem dX12_reads_37 : decode cX12_reads 37 = .ok (.if_icmp .ge 117, 3) := by decide +kernel
theorem dX12_reads_40 : decode cX12_reads 40 = .ok (.iload 8, 2) := by decide +kernel
theorem dX12_reads_42 : decode cX12_reads 42 = .ok (.ifCond .ne 7, 3) := by decide +kernel
theorem dX12_reads_45 : decode cX12_reads 45 = .ok (.iload_n 3, 1) := by decide +kernel
theorem dX12_reads_46 : decode cX12_reads 46 = .ok (.goto 27, 3) := by decide +kernel
theorem dX12_reads_49 : decode cX12_reads 49 = .ok (.iload 8, 2) := by decide +kernel
theorem dX12_reads_51 : decode cX12_reads 51 = .ok (.iconst 1, 1) := by decide +kernel
theorem dX12_reads_52 : decode cX12_reads 52 = .ok (.if_icmp .ne 8, 3) := by decide +kernel
theorem dX12_reads_55 : decode cX12_reads 55 = .ok (.iload 4, 2) := by decide +kernel
theorem dX12_reads_57 : decode cX12_reads 57 = .ok (.goto 16, 3) := by decide +kernel
theorem dX12_reads_60 : decode cX12_reads 60 = .ok (.iload 8, 2) := by decide +kernel
theorem dX12_reads_62 : decode cX12_reads 62 = .ok (.iconst 2, 1) := by decide +kernel
theorem dX12_reads_63 : decode cX12_reads 63 = .ok (.if_icmp .ne 8, 3) := by decide +kernel
theorem dX12_reads_66 : decode cX12_reads 66 = .ok (.iload 5, 2) := by decide +kernel
theorem dX12_reads_68 : decode cX12_reads 68 = .ok (.goto 5, 3) := by decide +kernel
theorem dX12_reads_71 : decode cX12_reads 71 = .ok (.iload 6, 2) := by decide +kernel
theorem dX12_reads_73 : decode cX12_reads 73 = .ok (.istore 9, 2) := by decide +kernel
theorem dX12_reads_75 : decode cX12_reads 75 = .ok (.iload 9, 2) := by decide +kernel
theorem dX12_reads_77 : decode cX12_reads 77 = .ok (.ifCond .lt 23, 3) := by decide +kernel
theorem dX12_reads_80 : decode cX12_reads 80 = .ok (.iload 9, 2) := by decide +kernel
theorem dX12_reads_82 : decode cX12_reads 82 = .ok (.bipush 32, 2) := by decide +kernel
theorem dX12_reads_84 : decode cX12_reads 84 = .ok (.idiv, 1) := by decide +kernel
theorem dX12_reads_85 : decode cX12_reads 85 = .ok (.bipush 16, 2) := by decide +kernel
theorem dX12_reads_87 : decode cX12_reads 87 = .ok (.if_icmp .gt 13, 3) := by decide +kernel
theorem dX12_reads_90 : decode cX12_reads 90 = .ok (.iload 9, 2) := by decide +kernel
theorem dX12_reads_92 : decode cX12_reads 92 = .ok (.bipush 32, 2) := by decide +kernel
theorem dX12_reads_94 : decode cX12_reads 94 = .ok (.irem, 1) := by decide +kernel
theorem dX12_reads_95 : decode cX12_reads 95 = .ok (.bipush 16, 2) := by decide +kernel
theorem dX12_reads_97 : decode cX12_reads 97 = .ok (.if_icmp .le 5, 3) := by decide +kernel
theorem dX12_reads_100 : decode cX12_reads 100 = .ok (.iconst 0, 1) := by decide +kernel
theorem dX12_reads_101 : decode cX12_reads 101 = .ok (.ireturn, 1) := by decide +kernel
theorem dX12_reads_102 : decode cX12_reads 102 = .ok (.aload_n 0, 1) := by decide +kernel
theorem dX12_reads_103 : decode cX12_reads 103 = .ok (.getfield 132, 3) := by decide +kernel
theorem dX12_reads_106 : decode cX12_reads 106 = .ok (.iconst 2, 1) := by decide +kernel
theorem dX12_reads_107 : decode cX12_reads 107 = .ok (.iload 8, 2) := by decide +kernel
theorem dX12_reads_109 : decode cX12_reads 109 = .ok (.imul, 1) := by decide +kernel
theorem dX12_reads_110 : decode cX12_reads 110 = .ok (.iload 9, 2) := by decide +kernel
theorem dX12_reads_112 : decode cX12_reads 112 = .ok (.bipush 32, 2) := by decide +kernel
theorem dX12_reads_114 : decode cX12_reads 114 = .ok (.idiv, 1) := by decide +kernel
theorem dX12_reads_115 : decode cX12_reads 115 = .ok (.iastore, 1) := by decide +kernel
theorem dX12_reads_116 : decode cX12_reads 116 = .ok (.aload_n 0, 1) := by decide +kernel
theorem dX12_reads_117 : decode cX12_reads 117 = .ok (.getfield 132, 3) := by decide +kernel
theorem dX12_reads_120 : decode cX12_reads 120 = .ok (.iconst 2, 1) := by decide +kernel
theorem dX12_reads_121 : decode cX12_reads 121 = .ok (.iload 8, 2) := by decide +kernel
theorem dX12_reads_123 : decode cX12_reads 123 = .ok (.imul, 1) := by decide +kernel
theorem dX12_reads_124 : decode cX12_reads 124 = .ok (.iconst 1, 1) := by decide +kernel
theorem dX12_reads_125 : decode cX12_reads 125 = .ok (.iadd, 1) := by decide +kernel
theorem dX12_reads_126 : decode cX12_reads 126 = .ok (.iload 9, 2) := by decide +kernel
theorem dX12_reads_128 : decode cX12_reads 128 = .ok (.bipush 32, 2) := by decide +kernel
theorem dX12_reads_130 : decode cX12_reads 130 = .ok (.irem, 1) := by decide +kernel
theorem dX12_reads_131 : decode cX12_reads 131 = .ok (.iastore, 1) := by decide +kernel
theorem dX12_reads_132 : decode cX12_reads 132 = .ok (.iload 7, 2) := by decide +kernel
theorem dX12_reads_134 : decode cX12_reads 134 = .ok (.iload 9, 2) := by decide +kernel
theorem dX12_reads_136 : decode cX12_reads 136 = .ok (.bipush 32, 2) := by decide +kernel
theorem dX12_reads_138 : decode cX12_reads 138 = .ok (.idiv, 1) := by decide +kernel
theorem dX12_reads_139 : decode cX12_reads 139 = .ok (.iload 9, 2) := by decide +kernel
theorem dX12_reads_141 : decode cX12_reads 141 = .ok (.bipush 32, 2) := by decide +kernel
theorem dX12_reads_143 : decode cX12_reads 143 = .ok (.irem, 1) := by decide +kernel
theorem dX12_reads_144 : decode cX12_reads 144 = .ok (.iadd, 1) := by decide +kernel
theorem dX12_reads_145 : decode cX12_reads 145 = .ok (.iadd, 1) := by decide +kernel
theorem dX12_reads_146 : decode cX12_reads 146 = .ok (.istore 7, 2) := by decide +kernel
theorem dX12_reads_148 : decode cX12_reads 148 = .ok (.iinc 8 1, 3) := by decide +kernel
theorem dX12_reads_151 : decode cX12_reads 151 = .ok (.goto (-117), 3) := by decide +kernel
theorem dX12_reads_154 : decode cX12_reads 154 = .ok (.iload 7, 2) := by decide +kernel
theorem dX12_reads_156 : decode cX12_reads 156 = .ok (.bipush 16, 2) := by decide +kernel
theorem dX12_reads_158 : decode cX12_reads 158 = .ok (.if_icmp .eq 5, 3) := by decide +kernel
theorem dX12_reads_161 : decode cX12_reads 161 = .ok (.iconst 0, 1) := by decide +kernel
theorem dX12_reads_162 : decode cX12_reads 162 = .ok (.ireturn, 1) := by decide +kernel
theorem dX12_reads_163 : decode cX12_reads 163 = .ok (.aload_n 0, 1) := by decide +kernel
theorem dX12_reads_164 : decode cX12_reads 164 = .ok (.getfield 330, 3) := by decide +kernel
theorem dX12_reads_167 : decode cX12_reads 167 = .ok (.istore 8, 2) := by decide +kernel
theorem dX12_reads_169 : decode cX12_reads 169 = .ok (.iload 8, 2) := by decide +kernel
theorem dX12_reads_171 : decode cX12_reads 171 = .ok (.bipush 8, 2) := by decide +kernel
theorem dX12_reads_173 : decode cX12_reads 173 = .ok (.if_icmp .ge 21, 3) := by decide +kernel
theorem dX12_reads_176 : decode cX12_reads 176 = .ok (.aload_n 0, 1) := by decide +kernel
theorem dX12_reads_177 : decode cX12_reads 177 = .ok (.getfield 132, 3) := by decide +kernel
theorem dX12_reads_180 : decode cX12_reads 180 = .ok (.iload 8, 2) := by decide +kernel
theorem dX12_reads_182 : decode cX12_reads 182 = .ok (.iaload, 1) := by decide +kernel
theorem dX12_reads_183 : decode cX12_reads 183 = .ok (.ifCond .eq 5, 3) := by decide +kernel
theorem dX12_reads_186 : decode cX12_reads 186 = .ok (.iconst 0, 1) := by decide +kernel
theorem dX12_reads_187 : decode cX12_reads 187 = .ok (.ireturn, 1) := by decide +kernel
theorem dX12_reads_188 : decode cX12_reads 188 = .ok (.iinc 8 1, 3) := by decide +kernel
theorem dX12_reads_191 : decode cX12_reads 191 = .ok (.goto (-22), 3) := by decide +kernel
theorem dX12_reads_194 : decode cX12_reads 194 = .ok (.iconst 0, 1) := by decide +kernel
theorem dX12_reads_195 : decode cX12_reads 195 = .ok (.istore 8, 2) := by decide +kernel
theorem dX12_reads_197 : decode cX12_reads 197 = .ok (.iload 8, 2) := by decide +kernel
theorem dX12_reads_199 : decode cX12_reads 199 = .ok (.bipush 8, 2) := by decide +kernel
theorem dX12_reads_201 : decode cX12_reads 201 = .ok (.if_icmp .ge 33, 3) := by decide +kernel
theorem dX12_reads_204 : decode cX12_reads 204 = .ok (.aload_n 0, 1) := by decide +kernel
theorem dX12_reads_205 : decode cX12_reads 205 = .ok (.getfield 126, 3) := by decide +kernel
theorem dX12_reads_208 : decode cX12_reads 208 = .ok (.bipush 64, 2) := by decide +kernel
theorem dX12_reads_210 : decode cX12_reads 210 = .ok (.iload_n 1, 1) := by decide +kernel
theorem dX12_reads_211 : decode cX12_reads 211 = .ok (.imul, 1) := by decide +kernel
theorem dX12_reads_212 : decode cX12_reads 212 = .ok (.bipush 8, 2) := by decide +kernel
theorem dX12_reads_214 : decode cX12_reads 214 = .ok (.iload_n 2, 1) := by decide +kernel
theorem dX12_reads_215 : decode cX12_reads 215 = .ok (.imul, 1) := by decide +kernel
theorem dX12_reads_216 : decode cX12_reads 216 = .ok (.iadd, 1) := by decide +kernel
theorem dX12_reads_217 : decode cX12_reads 217 = .ok (.iload 8, 2) := by decide +kernel
theorem dX12_reads_219 : decode cX12_reads 219 = .ok (.iadd, 1) := by decide +kernel
theorem dX12_reads_220 : decode cX12_reads 220 = .ok (.aload_n 0, 1) := by decide +kernel
theorem dX12_reads_221 : decode cX12_reads 221 = .ok (.getfield 132, 3) := by decide +kernel
theorem dX12_reads_224 : decode cX12_reads 224 = .ok (.iload 8, 2) := by decide +kernel
theorem dX12_reads_226 : decode cX12_reads 226 = .ok (.iaload, 1) := by decide +kernel
theorem dX12_reads_227 : decode cX12_reads 227 = .ok (.iastore, 1) := by decide +kernel
theorem dX12_reads_228 : decode cX12_reads 228 = .ok (.iinc 8 1, 3) := by decide +kernel
theorem dX12_reads_231 : decode cX12_reads 231 = .ok (.goto (-34), 3) := by decide +kernel
theorem dX12_reads_234 : decode cX12_reads 234 = .ok (.iconst 1, 1) := by decide +kernel
theorem dX12_reads_235 : decode cX12_reads 235 = .ok (.ireturn, 1) := by decide +kernel
theorem dX12_value_0 : decode cX12_value 0 = .ok (.aload_n 0, 1) := by decide +kernel
theorem dX12_value_1 : decode cX12_value 1 = .ok (.iconst 0, 1) := by decide +kernel
theorem dX12_value_2 : decode cX12_value 2 = .ok (.putfield 171, 3) := by decide +kernel
theorem dX12_value_5 : decode cX12_value 5 = .ok (.iload_n 1, 1) := by decide +kernel
theorem dX12_value_6 : decode cX12_value 6 = .ok (.ifCond .lt 22, 3) := by decide +kernel
theorem dX12_value_9 : decode cX12_value 9 = .ok (.iload_n 1, 1) := by decide +kernel
theorem dX12_value_10 : decode cX12_value 10 = .ok (.aload_n 0, 1) := by decide +kernel
theorem dX12_value_11 : decode cX12_value 11 = .ok (.getfield 330, 3) := by decide +kernel
theorem dX12_value_14 : decode cX12_value 14 = .ok (.if_icmp .ge 14, 3) := by decide +kernel
theorem dX12_value_17 : decode cX12_value 17 = .ok (.iload_n 2, 1) := by decide +kernel
theorem dX12_value_18 : decode cX12_value 18 = .ok (.ifCond .lt 10, 3) := by decide +kernel
theorem dX12_value_21 : decode cX12_value 21 = .ok (.iload_n 2, 1) := by decide +kernel
theorem dX12_value_22 : decode cX12_value 22 = .ok (.sipush 9999, 3) := by decide +kernel
theorem dX12_value_25 : decode cX12_value 25 = .ok (.if_icmp .le 5, 3) := by decide +kernel
theorem dX12_value_28 : decode cX12_value 28 = .ok (.iconst 0, 1) := by decide +kernel
theorem dX12_value_29 : decode cX12_value 29 = .ok (.ireturn, 1) := by decide +kernel
theorem dX12_value_30 : decode cX12_value 30 = .ok (.aload_n 0, 1) := by decide +kernel
theorem dX12_value_31 : decode cX12_value 31 = .ok (.getfield 129, 3) := by decide +kernel
theorem dX12_value_34 : decode cX12_value 34 = .ok (.iload_n 1, 1) := by decide +kernel
theorem dX12_value_35 : decode cX12_value 35 = .ok (.iload_n 2, 1) := by decide +kernel
theorem dX12_value_36 : decode cX12_value 36 = .ok (.iastore, 1) := by decide +kernel
theorem dX12_value_37 : decode cX12_value 37 = .ok (.iconst 1, 1) := by decide +kernel
theorem dX12_value_38 : decode cX12_value 38 = .ok (.ireturn, 1) := by decide +kernel
theorem dX12_know_0 : decode cX12_know 0 = .ok (.iconst 0, 1) := by decide +kernel
theorem dX12_know_1 : decode cX12_know 1 = .ok (.istore_n 2, 1) := by decide +kernel
theorem dX12_know_2 : decode cX12_know 2 = .ok (.iload_n 2, 1) := by decide +kernel
theorem dX12_know_3 : decode cX12_know 3 = .ok (.bipush 60, 2) := by decide +kernel
theorem dX12_know_5 : decode cX12_know 5 = .ok (.if_icmp .ge 25, 3) := by decide +kernel
theorem dX12_know_8 : decode cX12_know 8 = .ok (.aload_n 0, 1) := by decide +kernel
theorem dX12_know_9 : decode cX12_know 9 = .ok (.getfield 74, 3) := by decide +kernel
theorem dX12_know_12 : decode cX12_know 12 = .ok (.iload_n 2, 1) := by decide +kernel
theorem dX12_know_13 : decode cX12_know 13 = .ok (.iload_n 2, 1) := by decide +kernel
theorem dX12_know_14 : decode cX12_know 14 = .ok (.iload_n 1, 1) := by decide +kernel
theorem dX12_know_15 : decode cX12_know 15 = .ok (.if_icmp .ge 7, 3) := by decide +kernel
theorem dX12_know_18 : decode cX12_know 18 = .ok (.iconst 1, 1) := by decide +kernel
theorem dX12_know_19 : decode cX12_know 19 = .ok (.goto 4, 3) := by decide +kernel
theorem dX12_know_22 : decode cX12_know 22 = .ok (.iconst 0, 1) := by decide +kernel
theorem dX12_know_23 : decode cX12_know 23 = .ok (.bastore, 1) := by decide +kernel
theorem dX12_know_24 : decode cX12_know 24 = .ok (.iinc 2 1, 3) := by decide +kernel
theorem dX12_know_27 : decode cX12_know 27 = .ok (.goto (-25), 3) := by decide +kernel
theorem dX12_know_30 : decode cX12_know 30 = .ok (.iload_n 1, 1) := by decide +kernel
theorem dX12_know_31 : decode cX12_know 31 = .ok (.iconst 1, 1) := by decide +kernel
theorem dX12_know_32 : decode cX12_know 32 = .ok (.isub, 1) := by decide +kernel
theorem dX12_know_33 : decode cX12_know 33 = .ok (.istore_n 2, 1) := by decide +kernel
theorem dX12_know_34 : decode cX12_know 34 = .ok (.iload_n 2, 1) := by decide +kernel
theorem dX12_know_35 : decode cX12_know 35 = .ok (.ifCond .lt 39, 3) := by decide +kernel
theorem dX12_know_38 : decode cX12_know 38 = .ok (.aload_n 0, 1) := by decide +kernel
theorem dX12_know_39 : decode cX12_know 39 = .ok (.getfield 59, 3) := by decide +kernel
theorem dX12_know_42 : decode cX12_know 42 = .ok (.iload_n 2, 1) := by decide +kernel
theorem dX12_know_43 : decode cX12_know 43 = .ok (.iaload, 1) := by decide +kernel
theorem dX12_know_44 : decode cX12_know 44 = .ok (.ifCond .lt 24, 3) := by decide +kernel
theorem dX12_know_47 : decode cX12_know 47 = .ok (.aload_n 0, 1) := by decide +kernel
theorem dX12_know_48 : decode cX12_know 48 = .ok (.getfield 74, 3) := by decide +kernel
theorem dX12_know_51 : decode cX12_know 51 = .ok (.iload_n 2, 1) := by decide +kernel
theorem dX12_know_52 : decode cX12_know 52 = .ok (.baload, 1) := by decide +kernel
theorem dX12_know_53 : decode cX12_know 53 = .ok (.ifCond .eq 15, 3) := by decide +kernel
theorem dX12_know_56 : decode cX12_know 56 = .ok (.aload_n 0, 1) := by decide +kernel
theorem dX12_know_57 : decode cX12_know 57 = .ok (.getfield 74, 3) := by decide +kernel
theorem dX12_know_60 : decode cX12_know 60 = .ok (.aload_n 0, 1) := by decide +kernel
theorem dX12_know_61 : decode cX12_know 61 = .ok (.getfield 59, 3) := by decide +kernel
theorem dX12_know_64 : decode cX12_know 64 = .ok (.iload_n 2, 1) := by decide +kernel
theorem dX12_know_65 : decode cX12_know 65 = .ok (.iaload, 1) := by decide +kernel
theorem dX12_know_66 : decode cX12_know 66 = .ok (.iconst 0, 1) := by decide +kernel
theorem dX12_know_67 : decode cX12_know 67 = .ok (.bastore, 1) := by decide +kernel
theorem dX12_know_68 : decode cX12_know 68 = .ok (.iinc 2 (-1), 3) := by decide +kernel
theorem dX12_know_71 : decode cX12_know 71 = .ok (.goto (-37), 3) := by decide +kernel
theorem dX12_know_74 : decode cX12_know 74 = .ok (.iconst 0, 1) := by decide +kernel
theorem dX12_know_75 : decode cX12_know 75 = .ok (.istore_n 2, 1) := by decide +kernel
theorem dX12_know_76 : decode cX12_know 76 = .ok (.iload_n 2, 1) := by decide +kernel
theorem dX12_know_77 : decode cX12_know 77 = .ok (.bipush 60, 2) := by decide +kernel
theorem dX12_know_79 : decode cX12_know 79 = .ok (.if_icmp .ge 42, 3) := by decide +kernel
theorem dX12_know_82 : decode cX12_know 82 = .ok (.aload_n 0, 1) := by decide +kernel
theorem dX12_know_83 : decode cX12_know 83 = .ok (.getfield 135, 3) := by decide +kernel
theorem dX12_know_86 : decode cX12_know 86 = .ok (.iload_n 2, 1) := by decide +kernel
theorem dX12_know_87 : decode cX12_know 87 = .ok (.aload_n 0, 1) := by decide +kernel
theorem dX12_know_88 : decode cX12_know 88 = .ok (.getfield 74, 3) := by decide +kernel
theorem dX12_know_91 : decode cX12_know 91 = .ok (.iload_n 2, 1) := by decide +kernel
theorem dX12_know_92 : decode cX12_know 92 = .ok (.baload, 1) := by decide +kernel
theorem dX12_know_93 : decode cX12_know 93 = .ok (.ifCond .eq 20, 3) := by decide +kernel
theorem dX12_know_96 : decode cX12_know 96 = .ok (.aload_n 0, 1) := by decide +kernel
theorem dX12_know_97 : decode cX12_know 97 = .ok (.getfield 59, 3) := by decide +kernel
theorem dX12_know_100 : decode cX12_know 100 = .ok (.iload_n 2, 1) := by decide +kernel
theorem dX12_know_101 : decode cX12_know 101 = .ok (.iaload, 1) := by decide +kernel
theorem dX12_know_102 : decode cX12_know 102 = .ok (.ifCond .ge 11, 3) := by decide +kernel
theorem dX12_know_105 : decode cX12_know 105 = .ok (.aload_n 0, 1) := by decide +kernel
theorem dX12_know_106 : decode cX12_know 106 = .ok (.iload_n 2, 1) := by decide +kernel
theorem dX12_know_107 : decode cX12_know 107 = .ok (.invokevirtual 356, 3) := by decide +kernel
theorem dX12_know_110 : decode cX12_know 110 = .ok (.goto 4, 3) := by decide +kernel
theorem dX12_know_113 : decode cX12_know 113 = .ok (.iconst (-1), 1) := by decide +kernel
theorem dX12_know_114 : decode cX12_know 114 = .ok (.iastore, 1) := by decide +kernel
theorem dX12_know_115 : decode cX12_know 115 = .ok (.iinc 2 1, 3) := by decide +kernel
theorem dX12_know_118 : decode cX12_know 118 = .ok (.goto (-42), 3) := by decide +kernel
theorem dX12_know_121 : decode cX12_know 121 = .ok (.return_, 1) := by decide +kernel
theorem dX12_weigh_0 : decode cX12_weigh 0 = .ok (.aload_n 0, 1) := by decide +kernel
theorem dX12_weigh_1 : decode cX12_weigh 1 = .ok (.iconst 0, 1) := by decide +kernel
theorem dX12_weigh_2 : decode cX12_weigh 2 = .ok (.putfield 380, 3) := by decide +kernel
theorem dX12_weigh_5 : decode cX12_weigh 5 = .ok (.iconst 0, 1) := by decide +kernel
theorem dX12_weigh_6 : decode cX12_weigh 6 = .ok (.istore_n 3, 1) := by decide +kernel
theorem dX12_weigh_7 : decode cX12_weigh 7 = .ok (.iload_n 3, 1) := by decide +kernel
theorem dX12_weigh_8 : decode cX12_weigh 8 = .ok (.aload_n 0, 1) := by decide +kernel
theorem dX12_weigh_9 : decode cX12_weigh 9 = .ok (.getfield 330, 3) := by decide +kernel
theorem dX12_weigh_12 : decode cX12_weigh 12 = .ok (.if_icmp .ge 16, 3) := by decide +kernel
theorem dX12_weigh_15 : decode cX12_weigh 15 = .ok (.aload_n 0, 1) := by decide +kernel
theorem dX12_weigh_16 : decode cX12_weigh 16 = .ok (.getfield 138, 3) := by decide +kernel
theorem dX12_weigh_19 : decode cX12_weigh 19 = .ok (.iload_n 3, 1) := by decide +kernel
theorem dX12_weigh_20 : decode cX12_weigh 20 = .ok (.iconst 1, 1) := by decide +kernel
theorem dX12_weigh_21 : decode cX12_weigh 21 = .ok (.iastore, 1) := by decide +kernel
theorem dX12_weigh_22 : decode cX12_weigh 22 = .ok (.iinc 3 1, 3) := by decide +kernel
theorem dX12_weigh_25 : decode cX12_weigh 25 = .ok (.goto (-18), 3) := by decide +kernel
theorem dX12_weigh_28 : decode cX12_weigh 28 = .ok (.iconst 0, 1) := by decide +kernel
theorem dX12_weigh_29 : decode cX12_weigh 29 = .ok (.istore_n 3, 1) := by decide +kernel
theorem dX12_weigh_30 : decode cX12_weigh 30 = .ok (.iload_n 3, 1) := by decide +kernel
theorem dX12_weigh_31 : decode cX12_weigh 31 = .ok (.aload_n 0, 1) := by decide +kernel
theorem dX12_weigh_32 : decode cX12_weigh 32 = .ok (.getfield 174, 3) := by decide +kernel
theorem dX12_weigh_35 : decode cX12_weigh 35 = .ok (.if_icmp .ge 97, 3) := by decide +kernel
theorem dX12_weigh_38 : decode cX12_weigh 38 = .ok (.aload_n 0, 1) := by decide +kernel
theorem dX12_weigh_39 : decode cX12_weigh 39 = .ok (.getfield 135, 3) := by decide +kernel
theorem dX12_weigh_42 : decode cX12_weigh 42 = .ok (.iload_n 3, 1) := by decide +kernel
theorem dX12_weigh_43 : decode cX12_weigh 43 = .ok (.iaload, 1) := by decide +kernel
theorem dX12_weigh_44 : decode cX12_weigh 44 = .ok (.ifCond .lt 82, 3) := by decide +kernel
theorem dX12_weigh_47 : decode cX12_weigh 47 = .ok (.iload_n 3, 1) := by decide +kernel
theorem dX12_weigh_48 : decode cX12_weigh 48 = .ok (.iload_n 2, 1) := by decide +kernel
theorem dX12_weigh_49 : decode cX12_weigh 49 = .ok (.if_icmp .ne 6, 3) := by decide +kernel
theorem dX12_weigh_52 : decode cX12_weigh 52 = .ok (.goto 74, 3) := by decide +kernel
theorem dX12_weigh_55 : decode cX12_weigh 55 = .ok (.aload_n 0, 1) := by decide +kernel
theorem dX12_weigh_56 : decode cX12_weigh 56 = .ok (.iload_n 1, 1) := by decide +kernel
theorem dX12_weigh_57 : decode cX12_weigh 57 = .ok (.aload_n 0, 1) := by decide +kernel
theorem dX12_weigh_58 : decode cX12_weigh 58 = .ok (.getfield 65, 3) := by decide +kernel
theorem dX12_weigh_61 : decode cX12_weigh 61 = .ok (.iload_n 3, 1) := by decide +kernel
theorem dX12_weigh_62 : decode cX12_weigh 62 = .ok (.iaload, 1) := by decide +kernel
theorem dX12_weigh_63 : decode cX12_weigh 63 = .ok (.invokevirtual 377, 3) := by decide +kernel
theorem dX12_weigh_66 : decode cX12_weigh 66 = .ok (.istore 4, 2) := by decide +kernel
theorem dX12_weigh_68 : decode cX12_weigh 68 = .ok (.iconst 0, 1) := by decide +kernel
theorem dX12_weigh_69 : decode cX12_weigh 69 = .ok (.istore 5, 2) := by decide +kernel
theorem dX12_weigh_71 : decode cX12_weigh 71 = .ok (.iload 5, 2) := by decide +kernel
theorem dX12_weigh_73 : decode cX12_weigh 73 = .ok (.aload_n 0, 1) := by decide +kernel
theorem dX12_weigh_74 : decode cX12_weigh 74 = .ok (.getfield 330, 3) := by decide +kernel
theorem dX12_weigh_77 : decode cX12_weigh 77 = .ok (.if_icmp .ge 49, 3) := by decide +kernel
theorem dX12_weigh_80 : decode cX12_weigh 80 = .ok (.aload_n 0, 1) := by decide +kernel
theorem dX12_weigh_81 : decode cX12_weigh 81 = .ok (.getfield 138, 3) := by decide +kernel
theorem dX12_weigh_84 : decode cX12_weigh 84 = .ok (.iload 5, 2) := by decide +kernel
theorem dX12_weigh_86 : decode cX12_weigh 86 = .ok (.dup2, 1) := by decide +kernel
theorem dX12_weigh_87 : decode cX12_weigh 87 = .ok (.iaload, 1) := by decide +kernel
theorem dX12_weigh_88 : decode cX12_weigh 88 = .ok (.iload 4, 2) := by decide +kernel
theorem dX12_weigh_90 : decode cX12_weigh 90 = .ok (.aload_n 0, 1) := by decide +kernel
theorem dX12_weigh_91 : decode cX12_weigh 91 = .ok (.getfield 126, 3) := by decide +kernel
theorem dX12_weigh_94 : decode cX12_weigh 94 = .ok (.bipush 64, 2) := by decide +kernel
theorem dX12_weigh_96 : decode cX12_weigh 96 = .ok (.aload_n 0, 1) := by decide +kernel
theorem dX12_weigh_97 : decode cX12_weigh 97 = .ok (.getfield 62, 3) := by decide +kernel
theorem dX12_weigh_100 : decode cX12_weigh 100 = .ok (.iload_n 3, 1) := by decide +kernel
theorem dX12_weigh_101 : decode cX12_weigh 101 = .ok (.iaload, 1) := by decide +kernel
theorem dX12_weigh_102 : decode cX12_weigh 102 = .ok (.imul, 1) := by decide +kernel
theorem dX12_weigh_103 : decode cX12_weigh 103 = .ok (.bipush 8, 2) := by decide +kernel
theorem dX12_weigh_105 : decode cX12_weigh 105 = .ok (.iload 5, 2) := by decide +kernel
theorem dX12_weigh_107 : decode cX12_weigh 107 = .ok (.imul, 1) := by decide +kernel
theorem dX12_weigh_108 : decode cX12_weigh 108 = .ok (.iadd, 1) := by decide +kernel
theorem dX12_weigh_109 : decode cX12_weigh 109 = .ok (.aload_n 0, 1) := by decide +kernel
theorem dX12_weigh_110 : decode cX12_weigh 110 = .ok (.getfield 135, 3) := by decide +kernel
theorem dX12_weigh_113 : decode cX12_weigh 113 = .ok (.iload_n 3, 1) := by decide +kernel
theorem dX12_weigh_114 : decode cX12_weigh 114 = .ok (.iaload, 1) := by decide +kernel
theorem dX12_weigh_115 : decode cX12_weigh 115 = .ok (.iadd, 1) := by decide +kernel
theorem dX12_weigh_116 : decode cX12_weigh 116 = .ok (.iaload, 1) := by decide +kernel
theorem dX12_weigh_117 : decode cX12_weigh 117 = .ok (.imul, 1) := by decide +kernel
theorem dX12_weigh_118 : decode cX12_weigh 118 = .ok (.iadd, 1) := by decide +kernel
theorem dX12_weigh_119 : decode cX12_weigh 119 = .ok (.iastore, 1) := by decide +kernel
theorem dX12_weigh_120 : decode cX12_weigh 120 = .ok (.iinc 5 1, 3) := by decide +kernel
theorem dX12_weigh_123 : decode cX12_weigh 123 = .ok (.goto (-52), 3) := by decide +kernel
theorem dX12_weigh_126 : decode cX12_weigh 126 = .ok (.iinc 3 1, 3) := by decide +kernel
theorem dX12_weigh_129 : decode cX12_weigh 129 = .ok (.goto (-99), 3) := by decide +kernel
theorem dX12_weigh_132 : decode cX12_weigh 132 = .ok (.iconst 0, 1) := by decide +kernel
theorem dX12_weigh_133 : decode cX12_weigh 133 = .ok (.istore_n 3, 1) := by decide +kernel
theorem dX12_weigh_134 : decode cX12_weigh 134 = .ok (.iload_n 3, 1) := by decide +kernel
theorem dX12_weigh_135 : decode cX12_weigh 135 = .ok (.aload_n 0, 1) := by decide +kernel
theorem dX12_weigh_136 : decode cX12_weigh 136 = .ok (.getfield 330, 3) := by decide +kernel
theorem dX12_weigh_139 : decode cX12_weigh 139 = .ok (.if_icmp .ge 24, 3) := by decide +kernel
theorem dX12_weigh_142 : decode cX12_weigh 142 = .ok (.aload_n 0, 1) := by decide +kernel
theorem dX12_weigh_143 : decode cX12_weigh 143 = .ok (.dup, 1) := by decide +kernel
theorem dX12_weigh_144 : decode cX12_weigh 144 = .ok (.getfield 380, 3) := by decide +kernel
theorem dX12_weigh_147 : decode cX12_weigh 147 = .ok (.aload_n 0, 1) := by decide +kernel
theorem dX12_weigh_148 : decode cX12_weigh 148 = .ok (.getfield 138, 3) := by decide +kernel
theorem dX12_weigh_151 : decode cX12_weigh 151 = .ok (.iload_n 3, 1) := by decide +kernel
theorem dX12_weigh_152 : decode cX12_weigh 152 = .ok (.iaload, 1) := by decide +kernel
theorem dX12_weigh_153 : decode cX12_weigh 153 = .ok (.iadd, 1) := by decide +kernel
theorem dX12_weigh_154 : decode cX12_weigh 154 = .ok (.putfield 380, 3) := by decide +kernel
theorem dX12_weigh_157 : decode cX12_weigh 157 = .ok (.iinc 3 1, 3) := by decide +kernel
theorem dX12_weigh_160 : decode cX12_weigh 160 = .ok (.goto (-26), 3) := by decide +kernel
theorem dX12_weigh_163 : decode cX12_weigh 163 = .ok (.return_, 1) := by decide +kernel
theorem dX12_part_0 : decode cX12_part 0 = .ok (.sipush 1000, 3) := by decide +kernel
theorem dX12_part_3 : decode cX12_part 3 = .ok (.aload_n 0, 1) := by decide +kernel
theorem dX12_part_4 : decode cX12_part 4 = .ok (.getfield 138, 3) := by decide +kernel
theorem dX12_part_7 : decode cX12_part 7 = .ok (.iload_n 1, 1) := by decide +kernel
theorem dX12_part_8 : decode cX12_part 8 = .ok (.iaload, 1) := by decide +kernel
theorem dX12_part_9 : decode cX12_part 9 = .ok (.imul, 1) := by decide +kernel
theorem dX12_part_10 : decode cX12_part 10 = .ok (.aload_n 0, 1) := by decide +kernel
theorem dX12_part_11 : decode cX12_part 11 = .ok (.getfield 380, 3) := by decide +kernel
theorem dX12_part_14 : decode cX12_part 14 = .ok (.idiv, 1) := by decide +kernel
theorem dX12_part_15 : decode cX12_part 15 = .ok (.ireturn, 1) := by decide +kernel
theorem dX12_bestHere_0 : decode cX12_bestHere 0 = .ok (.iconst 0, 1) := by decide +kernel
theorem dX12_bestHere_1 : decode cX12_bestHere 1 = .ok (.istore_n 1, 1) := by decide +kernel
theorem dX12_bestHere_2 : decode cX12_bestHere 2 = .ok (.iconst 1, 1) := by decide +kernel
theorem dX12_bestHere_3 : decode cX12_bestHere 3 = .ok (.istore_n 2, 1) := by decide +kernel
theorem dX12_bestHere_4 : decode cX12_bestHere 4 = .ok (.iload_n 2, 1) := by decide +kernel
theorem dX12_bestHere_5 : decode cX12_bestHere 5 = .ok (.aload_n 0, 1) := by decide +kernel
theorem dX12_bestHere_6 : decode cX12_bestHere 6 = .ok (.getfield 330, 3) := by decide +kernel
theorem dX12_bestHere_9 : decode cX12_bestHere 9 = .ok (.if_icmp .ge 30, 3) := by decide +kernel
theorem dX12_bestHere_12 : decode cX12_bestHere 12 = .ok (.aload_n 0, 1) := by decide +kernel
theorem dX12_bestHere_13 : decode cX12_bestHere 13 = .ok (.getfield 138, 3) := by decide +kernel
theorem dX12_bestHere_16 : decode cX12_bestHere 16 = .ok (.iload_n 2, 1) := by decide +kernel
theorem dX12_bestHere_17 : decode cX12_bestHere 17 = .ok (.iaload, 1) := by decide +kernel
theorem dX12_bestHere_18 : decode cX12_bestHere 18 = .ok (.aload_n 0, 1) := by decide +kernel
theorem dX12_bestHere_19 : decode cX12_bestHere 19 = .ok (.getfield 138, 3) := by decide +kernel
theorem dX12_bestHere_22 : decode cX12_bestHere 22 = .ok (.iload_n 1, 1) := by decide +kernel
theorem dX12_bestHere_23 : decode cX12_bestHere 23 = .ok (.iaload, 1) := by decide +kernel
theorem dX12_bestHere_24 : decode cX12_bestHere 24 = .ok (.if_icmp .le 7, 3) := by decide +kernel
theorem dX12_bestHere_27 : decode cX12_bestHere 27 = .ok (.iload_n 2, 1) := by decide +kernel
theorem dX12_bestHere_28 : decode cX12_bestHere 28 = .ok (.goto 4, 3) := by decide +kernel
theorem dX12_bestHere_31 : decode cX12_bestHere 31 = .ok (.iload_n 1, 1) := by decide +kernel
theorem dX12_bestHere_32 : decode cX12_bestHere 32 = .ok (.istore_n 1, 1) := by decide +kernel
theorem dX12_bestHere_33 : decode cX12_bestHere 33 = .ok (.iinc 2 1, 3) := by decide +kernel
theorem dX12_bestHere_36 : decode cX12_bestHere 36 = .ok (.goto (-32), 3) := by decide +kernel
theorem dX12_bestHere_39 : decode cX12_bestHere 39 = .ok (.iload_n 1, 1) := by decide +kernel
theorem dX12_bestHere_40 : decode cX12_bestHere 40 = .ok (.ireturn, 1) := by decide +kernel
theorem dX12_isKnown_0 : decode cX12_isKnown 0 = .ok (.iload_n 1, 1) := by decide +kernel
theorem dX12_isKnown_1 : decode cX12_isKnown 1 = .ok (.ifCond .lt 15, 3) := by decide +kernel
theorem dX12_isKnown_4 : decode cX12_isKnown 4 = .ok (.iload_n 1, 1) := by decide +kernel
theorem dX12_isKnown_5 : decode cX12_isKnown 5 = .ok (.aload_n 0, 1) := by decide +kernel
theorem dX12_isKnown_6 : decode cX12_isKnown 6 = .ok (.getfield 174, 3) := by decide +kernel
theorem dX12_isKnown_9 : decode cX12_isKnown 9 = .ok (.if_icmp .gt 7, 3) := by decide +kernel
theorem dX12_isKnown_12 : decode cX12_isKnown 12 = .ok (.iconst 1, 1) := by decide +kernel
theorem dX12_isKnown_13 : decode cX12_isKnown 13 = .ok (.goto 4, 3) := by decide +kernel
theorem dX12_isKnown_16 : decode cX12_isKnown 16 = .ok (.iconst 0, 1) := by decide +kernel
theorem dX12_isKnown_17 : decode cX12_isKnown 17 = .ok (.ireturn, 1) := by decide +kernel
theorem dX12_chance_0 : decode cX12_chance 0 = .ok (.aload_n 0, 1) := by decide +kernel
theorem dX12_chance_1 : decode cX12_chance 1 = .ok (.iconst 0, 1) := by decide +kernel
theorem dX12_chance_2 : decode cX12_chance 2 = .ok (.putfield 171, 3) := by decide +kernel
theorem dX12_chance_5 : decode cX12_chance 5 = .ok (.aload_n 0, 1) := by decide +kernel
theorem dX12_chance_6 : decode cX12_chance 6 = .ok (.iload_n 1, 1) := by decide +kernel
theorem dX12_chance_7 : decode cX12_chance 7 = .ok (.invokevirtual 383, 3) := by decide +kernel
theorem dX12_chance_10 : decode cX12_chance 10 = .ok (.ifCond .eq 47, 3) := by decide +kernel
theorem dX12_chance_13 : decode cX12_chance 13 = .ok (.aload_n 0, 1) := by decide +kernel
theorem dX12_chance_14 : decode cX12_chance 14 = .ok (.iload_n 2, 1) := by decide +kernel
theorem dX12_chance_15 : decode cX12_chance 15 = .ok (.invokevirtual 180, 3) := by decide +kernel
theorem dX12_chance_18 : decode cX12_chance 18 = .ok (.ifCond .eq 39, 3) := by decide +kernel
theorem dX12_chance_21 : decode cX12_chance 21 = .ok (.iload 4, 2) := by decide +kernel
theorem dX12_chance_23 : decode cX12_chance 23 = .ok (.ifCond .lt 34, 3) := by decide +kernel
theorem dX12_chance_26 : decode cX12_chance 26 = .ok (.iload 4, 2) := by decide +kernel
theorem dX12_chance_28 : decode cX12_chance 28 = .ok (.iconst 4, 1) := by decide +kernel
theorem dX12_chance_29 : decode cX12_chance 29 = .ok (.if_icmp .gt 28, 3) := by decide +kernel
theorem dX12_chance_32 : decode cX12_chance 32 = .ok (.aload_n 0, 1) := by decide +kernel
theorem dX12_chance_33 : decode cX12_chance 33 = .ok (.getfield 330, 3) := by decide +kernel
theorem dX12_chance_36 : decode cX12_chance 36 = .ok (.ifCond .eq 21, 3) := by decide +kernel
theorem dX12_chance_39 : decode cX12_chance 39 = .ok (.iload 4, 2) := by decide +kernel
theorem dX12_chance_41 : decode cX12_chance 41 = .ok (.iconst 2, 1) := by decide +kernel
theorem dX12_chance_42 : decode cX12_chance 42 = .ok (.if_icmp .ge 17, 3) := by decide +kernel
theorem dX12_chance_45 : decode cX12_chance 45 = .ok (.iload_n 3, 1) := by decide +kernel
theorem dX12_chance_46 : decode cX12_chance 46 = .ok (.ifCond .lt 11, 3) := by decide +kernel
theorem dX12_chance_49 : decode cX12_chance 49 = .ok (.iload_n 3, 1) := by decide +kernel
theorem dX12_chance_50 : decode cX12_chance 50 = .ok (.aload_n 0, 1) := by decide +kernel
theorem dX12_chance_51 : decode cX12_chance 51 = .ok (.getfield 330, 3) := by decide +kernel
theorem dX12_chance_54 : decode cX12_chance 54 = .ok (.if_icmp .lt 5, 3) := by decide +kernel
theorem dX12_chance_57 : decode cX12_chance 57 = .ok (.iconst (-1), 1) := by decide +kernel
theorem dX12_chance_58 : decode cX12_chance 58 = .ok (.ireturn, 1) := by decide +kernel
theorem dX12_chance_59 : decode cX12_chance 59 = .ok (.aload_n 0, 1) := by decide +kernel
theorem dX12_chance_60 : decode cX12_chance 60 = .ok (.iload_n 1, 1) := by decide +kernel
theorem dX12_chance_61 : decode cX12_chance 61 = .ok (.invokevirtual 386, 3) := by decide +kernel
theorem dX12_chance_64 : decode cX12_chance 64 = .ok (.aload_n 0, 1) := by decide +kernel
theorem dX12_chance_65 : decode cX12_chance 65 = .ok (.iload_n 2, 1) := by decide +kernel
theorem dX12_chance_66 : decode cX12_chance 66 = .ok (.iconst (-1), 1) := by decide +kernel
theorem dX12_chance_67 : decode cX12_chance 67 = .ok (.invokevirtual 389, 3) := by decide +kernel
theorem dX12_chance_70 : decode cX12_chance 70 = .ok (.iload 4, 2) := by decide +kernel
theorem dX12_chance_72 : decode cX12_chance 72 = .ok (.tableswitch 63 0 3 #[32, 39, 45, 50], 32) := by decide +kernel
theorem dX12_chance_104 : decode cX12_chance 104 = .ok (.aload_n 0, 1) := by decide +kernel
theorem dX12_chance_105 : decode cX12_chance 105 = .ok (.getfield 138, 3) := by decide +kernel
theorem dX12_chance_108 : decode cX12_chance 108 = .ok (.iload_n 3, 1) := by decide +kernel
theorem dX12_chance_109 : decode cX12_chance 109 = .ok (.iaload, 1) := by decide +kernel
theorem dX12_chance_110 : decode cX12_chance 110 = .ok (.ireturn, 1) := by decide +kernel
theorem dX12_chance_111 : decode cX12_chance 111 = .ok (.aload_n 0, 1) := by decide +kernel
theorem dX12_chance_112 : decode cX12_chance 112 = .ok (.iload_n 3, 1) := by decide +kernel
theorem dX12_chance_113 : decode cX12_chance 113 = .ok (.invokevirtual 392, 3) := by decide +kernel
theorem dX12_chance_116 : decode cX12_chance 116 = .ok (.ireturn, 1) := by decide +kernel
theorem dX12_chance_117 : decode cX12_chance 117 = .ok (.aload_n 0, 1) := by decide +kernel
theorem dX12_chance_118 : decode cX12_chance 118 = .ok (.invokevirtual 395, 3) := by decide +kernel
theorem dX12_chance_121 : decode cX12_chance 121 = .ok (.ireturn, 1) := by decide +kernel
theorem dX12_chance_122 : decode cX12_chance 122 = .ok (.sipush 1000, 3) := by decide +kernel
theorem dX12_chance_125 : decode cX12_chance 125 = .ok (.aload_n 0, 1) := by decide +kernel
theorem dX12_chance_126 : decode cX12_chance 126 = .ok (.aload_n 0, 1) := by decide +kernel
theorem dX12_chance_127 : decode cX12_chance 127 = .ok (.invokevirtual 395, 3) := by decide +kernel
theorem dX12_chance_130 : decode cX12_chance 130 = .ok (.invokevirtual 392, 3) := by decide +kernel
theorem dX12_chance_133 : decode cX12_chance 133 = .ok (.isub, 1) := by decide +kernel
theorem dX12_chance_134 : decode cX12_chance 134 = .ok (.ireturn, 1) := by decide +kernel
theorem dX12_chance_135 : decode cX12_chance 135 = .ok (.aload_n 0, 1) := by decide +kernel
theorem dX12_chance_136 : decode cX12_chance 136 = .ok (.getfield 380, 3) := by decide +kernel
theorem dX12_chance_139 : decode cX12_chance 139 = .ok (.ireturn, 1) := by decide +kernel
theorem dX12_leftOut_0 : decode cX12_leftOut 0 = .ok (.aload_n 0, 1) := by decide +kernel
theorem dX12_leftOut_1 : decode cX12_leftOut 1 = .ok (.iconst 0, 1) := by decide +kernel
theorem dX12_leftOut_2 : decode cX12_leftOut 2 = .ok (.putfield 171, 3) := by decide +kernel
theorem dX12_leftOut_5 : decode cX12_leftOut 5 = .ok (.aload_n 0, 1) := by decide +kernel
theorem dX12_leftOut_6 : decode cX12_leftOut 6 = .ok (.iload_n 1, 1) := by decide +kernel
theorem dX12_leftOut_7 : decode cX12_leftOut 7 = .ok (.invokevirtual 383, 3) := by decide +kernel
theorem dX12_leftOut_10 : decode cX12_leftOut 10 = .ok (.ifCond .eq 12, 3) := by decide +kernel
theorem dX12_leftOut_13 : decode cX12_leftOut 13 = .ok (.iload_n 2, 1) := by decide +kernel
theorem dX12_leftOut_14 : decode cX12_leftOut 14 = .ok (.ifCond .lt 8, 3) := by decide +kernel
theorem dX12_leftOut_17 : decode cX12_leftOut 17 = .ok (.iload_n 2, 1) := by decide +kernel
theorem dX12_leftOut_18 : decode cX12_leftOut 18 = .ok (.iconst 2, 1) := by decide +kernel
theorem dX12_leftOut_19 : decode cX12_leftOut 19 = .ok (.if_icmp .le 5, 3) := by decide +kernel
theorem dX12_leftOut_22 : decode cX12_leftOut 22 = .ok (.iconst (-1), 1) := by decide +kernel
theorem dX12_leftOut_23 : decode cX12_leftOut 23 = .ok (.ireturn, 1) := by decide +kernel
theorem dX12_leftOut_24 : decode cX12_leftOut 24 = .ok (.aload_n 0, 1) := by decide +kernel
theorem dX12_leftOut_25 : decode cX12_leftOut 25 = .ok (.iload_n 1, 1) := by decide +kernel
theorem dX12_leftOut_26 : decode cX12_leftOut 26 = .ok (.invokevirtual 386, 3) := by decide +kernel
theorem dX12_leftOut_29 : decode cX12_leftOut 29 = .ok (.iconst 0, 1) := by decide +kernel
theorem dX12_leftOut_30 : decode cX12_leftOut 30 = .ok (.istore_n 3, 1) := by decide +kernel
theorem dX12_leftOut_31 : decode cX12_leftOut 31 = .ok (.iconst 0, 1) := by decide +kernel
theorem dX12_leftOut_32 : decode cX12_leftOut 32 = .ok (.istore 4, 2) := by decide +kernel
theorem dX12_leftOut_34 : decode cX12_leftOut 34 = .ok (.iconst 0, 1) := by decide +kernel
theorem dX12_leftOut_35 : decode cX12_leftOut 35 = .ok (.istore 5, 2) := by decide +kernel
theorem dX12_leftOut_37 : decode cX12_leftOut 37 = .ok (.iconst 0, 1) := by decide +kernel
theorem dX12_leftOut_38 : decode cX12_leftOut 38 = .ok (.istore 6, 2) := by decide +kernel
theorem dX12_leftOut_40 : decode cX12_leftOut 40 = .ok (.iload 6, 2) := by decide +kernel
theorem dX12_leftOut_42 : decode cX12_leftOut 42 = .ok (.aload_n 0, 1) := by decide +kernel
theorem dX12_leftOut_43 : decode cX12_leftOut 43 = .ok (.getfield 174, 3) := by decide +kernel
theorem dX12_leftOut_46 : decode cX12_leftOut 46 = .ok (.if_icmp .ge 75, 3) := by decide +kernel
theorem dX12_leftOut_49 : decode cX12_leftOut 49 = .ok (.aload_n 0, 1) := by decide +kernel
theorem dX12_leftOut_50 : decode cX12_leftOut 50 = .ok (.getfield 135, 3) := by decide +kernel
theorem dX12_leftOut_53 : decode cX12_leftOut 53 = .ok (.iload 6, 2) := by decide +kernel
theorem dX12_leftOut_55 : decode cX12_leftOut 55 = .ok (.iaload, 1) := by decide +kernel
theorem dX12_leftOut_56 : decode cX12_leftOut 56 = .ok (.ifCond .ge 6, 3) := by decide +kernel
theorem dX12_leftOut_59 : decode cX12_leftOut 59 = .ok (.goto 56, 3) := by decide +kernel
theorem dX12_leftOut_62 : decode cX12_leftOut 62 = .ok (.aload_n 0, 1) := by decide +kernel
theorem dX12_leftOut_63 : decode cX12_leftOut 63 = .ok (.aload_n 0, 1) := by decide +kernel
theorem dX12_leftOut_64 : decode cX12_leftOut 64 = .ok (.getfield 65, 3) := by decide +kernel
theorem dX12_leftOut_67 : decode cX12_leftOut 67 = .ok (.iload 6, 2) := by decide +kernel
theorem dX12_leftOut_69 : decode cX12_leftOut 69 = .ok (.iaload, 1) := by decide +kernel
theorem dX12_leftOut_70 : decode cX12_leftOut 70 = .ok (.iload 6, 2) := by decide +kernel
theorem dX12_leftOut_72 : decode cX12_leftOut 72 = .ok (.invokevirtual 389, 3) := by decide +kernel
theorem dX12_leftOut_75 : decode cX12_leftOut 75 = .ok (.iinc 3 1, 3) := by decide +kernel
theorem dX12_leftOut_78 : decode cX12_leftOut 78 = .ok (.iload 4, 2) := by decide +kernel
theorem dX12_leftOut_80 : decode cX12_leftOut 80 = .ok (.aload_n 0, 1) := by decide +kernel
theorem dX12_leftOut_81 : decode cX12_leftOut 81 = .ok (.invokevirtual 395, 3) := by decide +kernel
theorem dX12_leftOut_84 : decode cX12_leftOut 84 = .ok (.aload_n 0, 1) := by decide +kernel
theorem dX12_leftOut_85 : decode cX12_leftOut 85 = .ok (.getfield 135, 3) := by decide +kernel
theorem dX12_leftOut_88 : decode cX12_leftOut 88 = .ok (.iload 6, 2) := by decide +kernel
theorem dX12_leftOut_90 : decode cX12_leftOut 90 = .ok (.iaload, 1) := by decide +kernel
theorem dX12_leftOut_91 : decode cX12_leftOut 91 = .ok (.if_icmp .ne 7, 3) := by decide +kernel
theorem dX12_leftOut_94 : decode cX12_leftOut 94 = .ok (.iconst 1, 1) := by decide +kernel
theorem dX12_leftOut_95 : decode cX12_leftOut 95 = .ok (.goto 4, 3) := by decide +kernel
theorem dX12_leftOut_98 : decode cX12_leftOut 98 = .ok (.iconst 0, 1) := by decide +kernel
theorem dX12_leftOut_99 : decode cX12_leftOut 99 = .ok (.iadd, 1) := by decide +kernel
theorem dX12_leftOut_100 : decode cX12_leftOut 100 = .ok (.istore 4, 2) := by decide +kernel
theorem dX12_leftOut_102 : decode cX12_leftOut 102 = .ok (.iload 5, 2) := by decide +kernel
theorem dX12_leftOut_104 : decode cX12_leftOut 104 = .ok (.aload_n 0, 1) := by decide +kernel
theorem dX12_leftOut_105 : decode cX12_leftOut 105 = .ok (.aload_n 0, 1) := by decide +kernel
theorem dX12_leftOut_106 : decode cX12_leftOut 106 = .ok (.invokevirtual 395, 3) := by decide +kernel
theorem dX12_leftOut_109 : decode cX12_leftOut 109 = .ok (.invokevirtual 392, 3) := by decide +kernel
theorem dX12_leftOut_112 : decode cX12_leftOut 112 = .ok (.iadd, 1) := by decide +kernel
theorem dX12_leftOut_113 : decode cX12_leftOut 113 = .ok (.istore 5, 2) := by decide +kernel
theorem dX12_leftOut_115 : decode cX12_leftOut 115 = .ok (.iinc 6 1, 3) := by decide +kernel
theorem dX12_leftOut_118 : decode cX12_leftOut 118 = .ok (.goto (-78), 3) := by decide +kernel
theorem dX12_leftOut_121 : decode cX12_leftOut 121 = .ok (.iload_n 2, 1) := by decide +kernel
theorem dX12_leftOut_122 : decode cX12_leftOut 122 = .ok (.ifCond .ne 7, 3) := by decide +kernel
theorem dX12_leftOut_125 : decode cX12_leftOut 125 = .ok (.iload_n 3, 1) := by decide +kernel
theorem dX12_leftOut_126 : decode cX12_leftOut 126 = .ok (.goto 15, 3) := by decide +kernel
theorem dX12_leftOut_129 : decode cX12_leftOut 129 = .ok (.iload_n 2, 1) := by decide +kernel
theorem dX12_leftOut_130 : decode cX12_leftOut 130 = .ok (.iconst 1, 1) := by decide +kernel
theorem dX12_leftOut_131 : decode cX12_leftOut 131 = .ok (.if_icmp .ne 8, 3) := by decide +kernel
theorem dX12_leftOut_134 : decode cX12_leftOut 134 = .ok (.iload 4, 2) := by decide +kernel
theorem dX12_leftOut_136 : decode cX12_leftOut 136 = .ok (.goto 5, 3) := by decide +kernel
theorem dX12_leftOut_139 : decode cX12_leftOut 139 = .ok (.iload 5, 2) := by decide +kernel
theorem dX12_leftOut_141 : decode cX12_leftOut 141 = .ok (.ireturn, 1) := by decide +kernel
theorem dX12_change_0 : decode cX12_change 0 = .ok (.iload_n 2, 1) := by decide +kernel
theorem dX12_change_1 : decode cX12_change 1 = .ok (.iload_n 3, 1) := by decide +kernel
theorem dX12_change_2 : decode cX12_change 2 = .ok (.if_icmp .ne 5, 3) := by decide +kernel
theorem dX12_change_5 : decode cX12_change 5 = .ok (.iconst 0, 1) := by decide +kernel
theorem dX12_change_6 : decode cX12_change 6 = .ok (.ireturn, 1) := by decide +kernel
theorem dX12_change_7 : decode cX12_change 7 = .ok (.aload_n 0, 1) := by decide +kernel
theorem dX12_change_8 : decode cX12_change 8 = .ok (.getfield 20, 3) := by decide +kernel
theorem dX12_change_11 : decode cX12_change 11 = .ok (.aload_n 0, 1) := by decide +kernel
theorem dX12_change_12 : decode cX12_change 12 = .ok (.getfield 147, 3) := by decide +kernel
theorem dX12_change_15 : decode cX12_change 15 = .ok (.iload_n 1, 1) := by decide +kernel
theorem dX12_change_16 : decode cX12_change 16 = .ok (.iaload, 1) := by decide +kernel
theorem dX12_change_17 : decode cX12_change 17 = .ok (.iaload, 1) := by decide +kernel
theorem dX12_change_18 : decode cX12_change 18 = .ok (.aload_n 0, 1) := by decide +kernel
theorem dX12_change_19 : decode cX12_change 19 = .ok (.getfield 20, 3) := by decide +kernel
theorem dX12_change_22 : decode cX12_change 22 = .ok (.aload_n 0, 1) := by decide +kernel
theorem dX12_change_23 : decode cX12_change 23 = .ok (.getfield 147, 3) := by decide +kernel
theorem dX12_change_26 : decode cX12_change 26 = .ok (.iload_n 1, 1) := by decide +kernel
theorem dX12_change_27 : decode cX12_change 27 = .ok (.iconst 1, 1) := by decide +kernel
theorem dX12_change_28 : decode cX12_change 28 = .ok (.iadd, 1) := by decide +kernel
theorem dX12_change_29 : decode cX12_change 29 = .ok (.iaload, 1) := by decide +kernel
theorem dX12_change_30 : decode cX12_change 30 = .ok (.iaload, 1) := by decide +kernel
theorem dX12_change_31 : decode cX12_change 31 = .ok (.isub, 1) := by decide +kernel
theorem dX12_change_32 : decode cX12_change 32 = .ok (.invokestatic 359, 3) := by decide +kernel
theorem dX12_change_35 : decode cX12_change 35 = .ok (.aload_n 0, 1) := by decide +kernel
theorem dX12_change_36 : decode cX12_change 36 = .ok (.getfield 35, 3) := by decide +kernel
theorem dX12_change_39 : decode cX12_change 39 = .ok (.if_icmp .lt 10, 3) := by decide +kernel
theorem dX12_change_42 : decode cX12_change 42 = .ok (.aload_n 0, 1) := by decide +kernel
theorem dX12_change_43 : decode cX12_change 43 = .ok (.getfield 50, 3) := by decide +kernel
theorem dX12_change_46 : decode cX12_change 46 = .ok (.goto 7, 3) := by decide +kernel
theorem dX12_change_49 : decode cX12_change 49 = .ok (.aload_n 0, 1) := by decide +kernel
theorem dX12_change_50 : decode cX12_change 50 = .ok (.getfield 47, 3) := by decide +kernel
theorem dX12_change_53 : decode cX12_change 53 = .ok (.ireturn, 1) := by decide +kernel
theorem dX12_onward_0 : decode cX12_onward 0 = .ok (.iload_n 1, 1) := by decide +kernel
theorem dX12_onward_1 : decode cX12_onward 1 = .ok (.iload_n 3, 1) := by decide +kernel
theorem dX12_onward_2 : decode cX12_onward 2 = .ok (.iconst 1, 1) := by decide +kernel
theorem dX12_onward_3 : decode cX12_onward 3 = .ok (.isub, 1) := by decide +kernel
theorem dX12_onward_4 : decode cX12_onward 4 = .ok (.if_icmp .ne 15, 3) := by decide +kernel
theorem dX12_onward_7 : decode cX12_onward 7 = .ok (.aload_n 0, 1) := by decide +kernel
theorem dX12_onward_8 : decode cX12_onward 8 = .ok (.getfield 144, 3) := by decide +kernel
theorem dX12_onward_11 : decode cX12_onward 11 = .ok (.bipush 8, 2) := by decide +kernel
theorem dX12_onward_13 : decode cX12_onward 13 = .ok (.iload_n 1, 1) := by decide +kernel
theorem dX12_onward_14 : decode cX12_onward 14 = .ok (.imul, 1) := by decide +kernel
theorem dX12_onward_15 : decode cX12_onward 15 = .ok (.iload_n 2, 1) := by decide +kernel
theorem dX12_onward_16 : decode cX12_onward 16 = .ok (.iadd, 1) := by decide +kernel
theorem dX12_onward_17 : decode cX12_onward 17 = .ok (.iaload, 1) := by decide +kernel
theorem dX12_onward_18 : decode cX12_onward 18 = .ok (.ireturn, 1) := by decide +kernel
theorem dX12_onward_19 : decode cX12_onward 19 = .ok (.iconst (-1), 1) := by decide +kernel
theorem dX12_onward_20 : decode cX12_onward 20 = .ok (.istore 4, 2) := by decide +kernel
theorem dX12_onward_22 : decode cX12_onward 22 = .ok (.iconst 0, 1) := by decide +kernel
theorem dX12_onward_23 : decode cX12_onward 23 = .ok (.istore 5, 2) := by decide +kernel
theorem dX12_onward_25 : decode cX12_onward 25 = .ok (.iload 5, 2) := by decide +kernel
theorem dX12_onward_27 : decode cX12_onward 27 = .ok (.aload_n 0, 1) := by decide +kernel
theorem dX12_onward_28 : decode cX12_onward 28 = .ok (.getfield 330, 3) := by decide +kernel
theorem dX12_onward_31 : decode cX12_onward 31 = .ok (.if_icmp .ge 68, 3) := by decide +kernel
theorem dX12_onward_34 : decode cX12_onward 34 = .ok (.aload_n 0, 1) := by decide +kernel
theorem dX12_onward_35 : decode cX12_onward 35 = .ok (.getfield 144, 3) := by decide +kernel
theorem dX12_onward_38 : decode cX12_onward 38 = .ok (.bipush 8, 2) := by decide +kernel
theorem dX12_onward_40 : decode cX12_onward 40 = .ok (.iload_n 1, 1) := by decide +kernel
theorem dX12_onward_41 : decode cX12_onward 41 = .ok (.imul, 1) := by decide +kernel
theorem dX12_onward_42 : decode cX12_onward 42 = .ok (.iload_n 2, 1) := by decide +kernel
theorem dX12_onward_43 : decode cX12_onward 43 = .ok (.iadd, 1) := by decide +kernel
theorem dX12_onward_44 : decode cX12_onward 44 = .ok (.iaload, 1) := by decide +kernel
theorem dX12_onward_45 : decode cX12_onward 45 = .ok (.aload_n 0, 1) := by decide +kernel
theorem dX12_onward_46 : decode cX12_onward 46 = .ok (.iload_n 1, 1) := by decide +kernel
theorem dX12_onward_47 : decode cX12_onward 47 = .ok (.iload_n 2, 1) := by decide +kernel
theorem dX12_onward_48 : decode cX12_onward 48 = .ok (.iload 5, 2) := by decide +kernel
theorem dX12_onward_50 : decode cX12_onward 50 = .ok (.invokevirtual 398, 3) := by decide +kernel
theorem dX12_onward_53 : decode cX12_onward 53 = .ok (.iadd, 1) := by decide +kernel
theorem dX12_onward_54 : decode cX12_onward 54 = .ok (.aload_n 0, 1) := by decide +kernel
theorem dX12_onward_55 : decode cX12_onward 55 = .ok (.getfield 141, 3) := by decide +kernel
theorem dX12_onward_58 : decode cX12_onward 58 = .ok (.bipush 8, 2) := by decide +kernel
theorem dX12_onward_60 : decode cX12_onward 60 = .ok (.iload_n 1, 1) := by decide +kernel
theorem dX12_onward_61 : decode cX12_onward 61 = .ok (.imul, 1) := by decide +kernel
theorem dX12_onward_62 : decode cX12_onward 62 = .ok (.bipush 8, 2) := by decide +kernel
theorem dX12_onward_64 : decode cX12_onward 64 = .ok (.iadd, 1) := by decide +kernel
theorem dX12_onward_65 : decode cX12_onward 65 = .ok (.iload 5, 2) := by decide +kernel
theorem dX12_onward_67 : decode cX12_onward 67 = .ok (.iadd, 1) := by decide +kernel
theorem dX12_onward_68 : decode cX12_onward 68 = .ok (.iaload, 1) := by decide +kernel
theorem dX12_onward_69 : decode cX12_onward 69 = .ok (.iadd, 1) := by decide +kernel
theorem dX12_onward_70 : decode cX12_onward 70 = .ok (.istore 6, 2) := by decide +kernel
theorem dX12_onward_72 : decode cX12_onward 72 = .ok (.iload 4, 2) := by decide +kernel
theorem dX12_onward_74 : decode cX12_onward 74 = .ok (.ifCond .lt 10, 3) := by decide +kernel
theorem dX12_onward_77 : decode cX12_onward 77 = .ok (.iload 6, 2) := by decide +kernel
theorem dX12_onward_79 : decode cX12_onward 79 = .ok (.iload 4, 2) := by decide +kernel
theorem dX12_onward_81 : decode cX12_onward 81 = .ok (.if_icmp .ge 8, 3) := by decide +kernel
theorem dX12_onward_84 : decode cX12_onward 84 = .ok (.iload 6, 2) := by decide +kernel
theorem dX12_onward_86 : decode cX12_onward 86 = .ok (.goto 5, 3) := by decide +kernel
theorem dX12_onward_89 : decode cX12_onward 89 = .ok (.iload 4, 2) := by decide +kernel
theorem dX12_onward_91 : decode cX12_onward 91 = .ok (.istore 4, 2) := by decide +kernel
theorem dX12_onward_93 : decode cX12_onward 93 = .ok (.iinc 5 1, 3) := by decide +kernel
theorem dX12_onward_96 : decode cX12_onward 96 = .ok (.goto (-71), 3) := by decide +kernel
theorem dX12_onward_99 : decode cX12_onward 99 = .ok (.iload 4, 2) := by decide +kernel
theorem dX12_onward_101 : decode cX12_onward 101 = .ok (.ireturn, 1) := by decide +kernel
theorem dX12_draw_0 : decode cX12_draw 0 = .ok (.aload_n 0, 1) := by decide +kernel
theorem dX12_draw_1 : decode cX12_draw 1 = .ok (.iconst 0, 1) := by decide +kernel
theorem dX12_draw_2 : decode cX12_draw 2 = .ok (.putfield 171, 3) := by decide +kernel
theorem dX12_draw_5 : decode cX12_draw 5 = .ok (.aload_n 0, 1) := by decide +kernel
theorem dX12_draw_6 : decode cX12_draw 6 = .ok (.iload_n 1, 1) := by decide +kernel
theorem dX12_draw_7 : decode cX12_draw 7 = .ok (.invokevirtual 383, 3) := by decide +kernel
theorem dX12_draw_10 : decode cX12_draw 10 = .ok (.ifCond .eq 33, 3) := by decide +kernel
theorem dX12_draw_13 : decode cX12_draw 13 = .ok (.iload_n 3, 1) := by decide +kernel
theorem dX12_draw_14 : decode cX12_draw 14 = .ok (.ifCond .lt 29, 3) := by decide +kernel
theorem dX12_draw_17 : decode cX12_draw 17 = .ok (.iload_n 3, 1) := by decide +kernel
theorem dX12_draw_18 : decode cX12_draw 18 = .ok (.iload_n 2, 1) := by decide +kernel
theorem dX12_draw_19 : decode cX12_draw 19 = .ok (.ifCond .eq 10, 3) := by decide +kernel
theorem dX12_draw_22 : decode cX12_draw 22 = .ok (.aload_n 0, 1) := by decide +kernel
theorem dX12_draw_23 : decode cX12_draw 23 = .ok (.getfield 13, 3) := by decide +kernel
theorem dX12_draw_26 : decode cX12_draw 26 = .ok (.goto 7, 3) := by decide +kernel
theorem dX12_draw_29 : decode cX12_draw 29 = .ok (.aload_n 0, 1) := by decide +kernel
theorem dX12_draw_30 : decode cX12_draw 30 = .ok (.getfield 17, 3) := by decide +kernel
theorem dX12_draw_33 : decode cX12_draw 33 = .ok (.if_icmp .ge 10, 3) := by decide +kernel
theorem dX12_draw_36 : decode cX12_draw 36 = .ok (.aload_n 0, 1) := by decide +kernel
theorem dX12_draw_37 : decode cX12_draw 37 = .ok (.getfield 330, 3) := by decide +kernel
theorem dX12_draw_40 : decode cX12_draw 40 = .ok (.ifCond .ne 5, 3) := by decide +kernel
theorem dX12_draw_43 : decode cX12_draw 43 = .ok (.iconst (-1), 1) := by decide +kernel
theorem dX12_draw_44 : decode cX12_draw 44 = .ok (.ireturn, 1) := by decide +kernel
theorem dX12_draw_45 : decode cX12_draw 45 = .ok (.aload_n 0, 1) := by decide +kernel
theorem dX12_draw_46 : decode cX12_draw 46 = .ok (.iload_n 1, 1) := by decide +kernel
theorem dX12_draw_47 : decode cX12_draw 47 = .ok (.invokevirtual 386, 3) := by decide +kernel
theorem dX12_draw_50 : decode cX12_draw 50 = .ok (.iload_n 2, 1) := by decide +kernel
theorem dX12_draw_51 : decode cX12_draw 51 = .ok (.ifCond .eq 10, 3) := by decide +kernel
theorem dX12_draw_54 : decode cX12_draw 54 = .ok (.aload_n 0, 1) := by decide +kernel
theorem dX12_draw_55 : decode cX12_draw 55 = .ok (.getfield 17, 3) := by decide +kernel
theorem dX12_draw_58 : decode cX12_draw 58 = .ok (.goto 7, 3) := by decide +kernel
theorem dX12_draw_61 : decode cX12_draw 61 = .ok (.aload_n 0, 1) := by decide +kernel
theorem dX12_draw_62 : decode cX12_draw 62 = .ok (.getfield 13, 3) := by decide +kernel
theorem dX12_draw_65 : decode cX12_draw 65 = .ok (.istore 4, 2) := by decide +kernel
theorem dX12_draw_67 : decode cX12_draw 67 = .ok (.iconst 0, 1) := by decide +kernel
theorem dX12_draw_68 : decode cX12_draw 68 = .ok (.istore 5, 2) := by decide +kernel
theorem dX12_draw_70 : decode cX12_draw 70 = .ok (.iload 5, 2) := by decide +kernel
theorem dX12_draw_72 : decode cX12_draw 72 = .ok (.iload 4, 2) := by decide +kernel
theorem dX12_draw_74 : decode cX12_draw 74 = .ok (.if_icmp .ge 94, 3) := by decide +kernel
theorem dX12_draw_77 : decode cX12_draw 77 = .ok (.aload_n 0, 1) := by decide +kernel
theorem dX12_draw_78 : decode cX12_draw 78 = .ok (.getfield 147, 3) := by decide +kernel
theorem dX12_draw_81 : decode cX12_draw 81 = .ok (.iload 5, 2) := by decide +kernel
theorem dX12_draw_83 : decode cX12_draw 83 = .ok (.iload_n 2, 1) := by decide +kernel
theorem dX12_draw_84 : decode cX12_draw 84 = .ok (.ifCond .eq 15, 3) := by decide +kernel
theorem dX12_draw_87 : decode cX12_draw 87 = .ok (.aload_n 0, 1) := by decide +kernel
theorem dX12_draw_88 : decode cX12_draw 88 = .ok (.getfield 13, 3) := by decide +kernel
theorem dX12_draw_91 : decode cX12_draw 91 = .ok (.iload 5, 2) := by decide +kernel
theorem dX12_draw_93 : decode cX12_draw 93 = .ok (.imul, 1) := by decide +kernel
theorem dX12_draw_94 : decode cX12_draw 94 = .ok (.iload_n 3, 1) := by decide +kernel
theorem dX12_draw_95 : decode cX12_draw 95 = .ok (.iadd, 1) := by decide +kernel
theorem dX12_draw_96 : decode cX12_draw 96 = .ok (.goto 12, 3) := by decide +kernel
theorem dX12_draw_99 : decode cX12_draw 99 = .ok (.aload_n 0, 1) := by decide +kernel
theorem dX12_draw_100 : decode cX12_draw 100 = .ok (.getfield 13, 3) := by decide +kernel
theorem dX12_draw_103 : decode cX12_draw 103 = .ok (.iload_n 3, 1) := by decide +kernel
theorem dX12_draw_104 : decode cX12_draw 104 = .ok (.imul, 1) := by decide +kernel
theorem dX12_draw_105 : decode cX12_draw 105 = .ok (.iload 5, 2) := by decide +kernel
theorem dX12_draw_107 : decode cX12_draw 107 = .ok (.iadd, 1) := by decide +kernel
theorem dX12_draw_108 : decode cX12_draw 108 = .ok (.iastore, 1) := by decide +kernel
theorem dX12_draw_109 : decode cX12_draw 109 = .ok (.aload_n 0, 1) := by decide +kernel
theorem dX12_draw_110 : decode cX12_draw 110 = .ok (.aload_n 0, 1) := by decide +kernel
theorem dX12_draw_111 : decode cX12_draw 111 = .ok (.getfield 147, 3) := by decide +kernel
theorem dX12_draw_114 : decode cX12_draw 114 = .ok (.iload 5, 2) := by decide +kernel
theorem dX12_draw_116 : decode cX12_draw 116 = .ok (.iaload, 1) := by decide +kernel
theorem dX12_draw_117 : decode cX12_draw 117 = .ok (.iconst (-1), 1) := by decide +kernel
theorem dX12_draw_118 : decode cX12_draw 118 = .ok (.invokevirtual 389, 3) := by decide +kernel
theorem dX12_draw_121 : decode cX12_draw 121 = .ok (.iconst 0, 1) := by decide +kernel
theorem dX12_draw_122 : decode cX12_draw 122 = .ok (.istore 6, 2) := by decide +kernel
theorem dX12_draw_124 : decode cX12_draw 124 = .ok (.iload 6, 2) := by decide +kernel
theorem dX12_draw_126 : decode cX12_draw 126 = .ok (.aload_n 0, 1) := by decide +kernel
theorem dX12_draw_127 : decode cX12_draw 127 = .ok (.getfield 330, 3) := by decide +kernel
theorem dX12_draw_130 : decode cX12_draw 130 = .ok (.if_icmp .ge 32, 3) := by decide +kernel
theorem dX12_draw_133 : decode cX12_draw 133 = .ok (.aload_n 0, 1) := by decide +kernel
theorem dX12_draw_134 : decode cX12_draw 134 = .ok (.getfield 144, 3) := by decide +kernel
theorem dX12_draw_137 : decode cX12_draw 137 = .ok (.bipush 8, 2) := by decide +kernel
theorem dX12_draw_139 : decode cX12_draw 139 = .ok (.iload 5, 2) := by decide +kernel
theorem dX12_draw_141 : decode cX12_draw 141 = .ok (.imul, 1) := by decide +kernel
theorem dX12_draw_142 : decode cX12_draw 142 = .ok (.iload 6, 2) := by decide +kernel
theorem dX12_draw_144 : decode cX12_draw 144 = .ok (.iadd, 1) := by decide +kernel
theorem dX12_draw_145 : decode cX12_draw 145 = .ok (.sipush 1000, 3) := by decide +kernel
theorem dX12_draw_148 : decode cX12_draw 148 = .ok (.aload_n 0, 1) := by decide +kernel
theorem dX12_draw_149 : decode cX12_draw 149 = .ok (.iload 6, 2) := by decide +kernel
theorem dX12_draw_151 : decode cX12_draw 151 = .ok (.invokevirtual 392, 3) := by decide +kernel
theorem dX12_draw_154 : decode cX12_draw 154 = .ok (.isub, 1) := by decide +kernel
theorem dX12_draw_155 : decode cX12_draw 155 = .ok (.iastore, 1) := by decide +kernel
theorem dX12_draw_156 : decode cX12_draw 156 = .ok (.iinc 6 1, 3) := by decide +kernel
theorem dX12_draw_159 : decode cX12_draw 159 = .ok (.goto (-35), 3) := by decide +kernel
theorem dX12_draw_162 : decode cX12_draw 162 = .ok (.iinc 5 1, 3) := by decide +kernel
theorem dX12_draw_165 : decode cX12_draw 165 = .ok (.goto (-95), 3) := by decide +kernel
theorem dX12_draw_168 : decode cX12_draw 168 = .ok (.iload 4, 2) := by decide +kernel
theorem dX12_draw_170 : decode cX12_draw 170 = .ok (.iconst 1, 1) := by decide +kernel
theorem dX12_draw_171 : decode cX12_draw 171 = .ok (.isub, 1) := by decide +kernel
theorem dX12_draw_172 : decode cX12_draw 172 = .ok (.istore 5, 2) := by decide +kernel
theorem dX12_draw_174 : decode cX12_draw 174 = .ok (.iload 5, 2) := by decide +kernel
theorem dX12_draw_176 : decode cX12_draw 176 = .ok (.ifCond .lt 50, 3) := by decide +kernel
theorem dX12_draw_179 : decode cX12_draw 179 = .ok (.iconst 0, 1) := by decide +kernel
theorem dX12_draw_180 : decode cX12_draw 180 = .ok (.istore 6, 2) := by decide +kernel
theorem dX12_draw_182 : decode cX12_draw 182 = .ok (.iload 6, 2) := by decide +kernel
theorem dX12_draw_184 : decode cX12_draw 184 = .ok (.aload_n 0, 1) := by decide +kernel
theorem dX12_draw_185 : decode cX12_draw 185 = .ok (.getfield 330, 3) := by decide +kernel
theorem dX12_draw_188 : decode cX12_draw 188 = .ok (.if_icmp .ge 32, 3) := by decide +kernel
theorem dX12_draw_191 : decode cX12_draw 191 = .ok (.aload_n 0, 1) := by decide +kernel
theorem dX12_draw_192 : decode cX12_draw 192 = .ok (.getfield 141, 3) := by decide +kernel
theorem dX12_draw_195 : decode cX12_draw 195 = .ok (.bipush 8, 2) := by decide +kernel
theorem dX12_draw_197 : decode cX12_draw 197 = .ok (.iload 5, 2) := by decide +kernel
theorem dX12_draw_199 : decode cX12_draw 199 = .ok (.imul, 1) := by decide +kernel
theorem dX12_draw_200 : decode cX12_draw 200 = .ok (.iload 6, 2) := by decide +kernel
theorem dX12_draw_202 : decode cX12_draw 202 = .ok (.iadd, 1) := by decide +kernel
theorem dX12_draw_203 : decode cX12_draw 203 = .ok (.aload_n 0, 1) := by decide +kernel
theorem dX12_draw_204 : decode cX12_draw 204 = .ok (.iload 5, 2) := by decide +kernel
theorem dX12_draw_206 : decode cX12_draw 206 = .ok (.iload 6, 2) := by decide +kernel
theorem dX12_draw_208 : decode cX12_draw 208 = .ok (.iload 4, 2) := by decide +kernel
theorem dX12_draw_210 : decode cX12_draw 210 = .ok (.invokevirtual 401, 3) := by decide +kernel
theorem dX12_draw_213 : decode cX12_draw 213 = .ok (.iastore, 1) := by decide +kernel
theorem dX12_draw_214 : decode cX12_draw 214 = .ok (.iinc 6 1, 3) := by decide +kernel
theorem dX12_draw_217 : decode cX12_draw 217 = .ok (.goto (-35), 3) := by decide +kernel
theorem dX12_draw_220 : decode cX12_draw 220 = .ok (.iinc 5 (-1), 3) := by decide +kernel
theorem dX12_draw_223 : decode cX12_draw 223 = .ok (.goto (-49), 3) := by decide +kernel
theorem dX12_draw_226 : decode cX12_draw 226 = .ok (.iconst 0, 1) := by decide +kernel
theorem dX12_draw_227 : decode cX12_draw 227 = .ok (.istore 5, 2) := by decide +kernel
theorem dX12_draw_229 : decode cX12_draw 229 = .ok (.iconst 1, 1) := by decide +kernel
theorem dX12_draw_230 : decode cX12_draw 230 = .ok (.istore 6, 2) := by decide +kernel
theorem dX12_draw_232 : decode cX12_draw 232 = .ok (.iload 6, 2) := by decide +kernel
theorem dX12_draw_234 : decode cX12_draw 234 = .ok (.aload_n 0, 1) := by decide +kernel
theorem dX12_draw_235 : decode cX12_draw 235 = .ok (.getfield 330, 3) := by decide +kernel
theorem dX12_draw_238 : decode cX12_draw 238 = .ok (.if_icmp .ge 35, 3) := by decide +kernel
theorem dX12_draw_241 : decode cX12_draw 241 = .ok (.aload_n 0, 1) := by decide +kernel
theorem dX12_draw_242 : decode cX12_draw 242 = .ok (.getfield 141, 3) := by decide +kernel
theorem dX12_draw_245 : decode cX12_draw 245 = .ok (.iload 6, 2) := by decide +kernel
theorem dX12_draw_247 : decode cX12_draw 247 = .ok (.iaload, 1) := by decide +kernel
theorem dX12_draw_248 : decode cX12_draw 248 = .ok (.aload_n 0, 1) := by decide +kernel
theorem dX12_draw_249 : decode cX12_draw 249 = .ok (.getfield 141, 3) := by decide +kernel
theorem dX12_draw_252 : decode cX12_draw 252 = .ok (.iload 5, 2) := by decide +kernel
theorem dX12_draw_254 : decode cX12_draw 254 = .ok (.iaload, 1) := by decide +kernel
theorem dX12_draw_255 : decode cX12_draw 255 = .ok (.if_icmp .ge 8, 3) := by decide +kernel
theorem dX12_draw_258 : decode cX12_draw 258 = .ok (.iload 6, 2) := by decide +kernel
theorem dX12_draw_260 : decode cX12_draw 260 = .ok (.goto 5, 3) := by decide +kernel
theorem dX12_draw_263 : decode cX12_draw 263 = .ok (.iload 5, 2) := by decide +kernel
theorem dX12_draw_265 : decode cX12_draw 265 = .ok (.istore 5, 2) := by decide +kernel
theorem dX12_draw_267 : decode cX12_draw 267 = .ok (.iinc 6 1, 3) := by decide +kernel
theorem dX12_draw_270 : decode cX12_draw 270 = .ok (.goto (-38), 3) := by decide +kernel
theorem dX12_draw_273 : decode cX12_draw 273 = .ok (.aload_n 0, 1) := by decide +kernel
theorem dX12_draw_274 : decode cX12_draw 274 = .ok (.getfield 141, 3) := by decide +kernel
theorem dX12_draw_277 : decode cX12_draw 277 = .ok (.iload 5, 2) := by decide +kernel
theorem dX12_draw_279 : decode cX12_draw 279 = .ok (.iaload, 1) := by decide +kernel
theorem dX12_draw_280 : decode cX12_draw 280 = .ok (.istore 6, 2) := by decide +kernel
theorem dX12_draw_282 : decode cX12_draw 282 = .ok (.aload_n 0, 1) := by decide +kernel
theorem dX12_draw_283 : decode cX12_draw 283 = .ok (.iload 4, 2) := by decide +kernel
theorem dX12_draw_285 : decode cX12_draw 285 = .ok (.putfield 404, 3) := by decide +kernel
theorem dX12_draw_288 : decode cX12_draw 288 = .ok (.aload_n 0, 1) := by decide +kernel
theorem dX12_draw_289 : decode cX12_draw 289 = .ok (.getfield 150, 3) := by decide +kernel
theorem dX12_draw_292 : decode cX12_draw 292 = .ok (.iconst 0, 1) := by decide +kernel
theorem dX12_draw_293 : decode cX12_draw 293 = .ok (.iload 5, 2) := by decide +kernel
theorem dX12_draw_295 : decode cX12_draw 295 = .ok (.iastore, 1) := by decide +kernel
theorem dX12_draw_296 : decode cX12_draw 296 = .ok (.iconst 1, 1) := by decide +kernel
theorem dX12_draw_297 : decode cX12_draw 297 = .ok (.istore 7, 2) := by decide +kernel
theorem dX12_draw_299 : decode cX12_draw 299 = .ok (.iload 7, 2) := by decide +kernel
theorem dX12_draw_301 : decode cX12_draw 301 = .ok (.iload 4, 2) := by decide +kernel
theorem dX12_draw_303 : decode cX12_draw 303 = .ok (.if_icmp .ge 100, 3) := by decide +kernel
theorem dX12_draw_306 : decode cX12_draw 306 = .ok (.aload_n 0, 1) := by decide +kernel
theorem dX12_draw_307 : decode cX12_draw 307 = .ok (.getfield 150, 3) := by decide +kernel
theorem dX12_draw_310 : decode cX12_draw 310 = .ok (.iload 7, 2) := by decide +kernel
theorem dX12_draw_312 : decode cX12_draw 312 = .ok (.iconst 1, 1) := by decide +kernel
theorem dX12_draw_313 : decode cX12_draw 313 = .ok (.isub, 1) := by decide +kernel
theorem dX12_draw_314 : decode cX12_draw 314 = .ok (.iaload, 1) := by decide +kernel
theorem dX12_draw_315 : decode cX12_draw 315 = .ok (.istore 8, 2) := by decide +kernel
theorem dX12_draw_317 : decode cX12_draw 317 = .ok (.iconst 0, 1) := by decide +kernel
theorem dX12_draw_318 : decode cX12_draw 318 = .ok (.istore 9, 2) := by decide +kernel
theorem dX12_draw_320 : decode cX12_draw 320 = .ok (.aload_n 0, 1) := by decide +kernel
theorem dX12_draw_321 : decode cX12_draw 321 = .ok (.getfield 144, 3) := by decide +kernel
theorem dX12_draw_324 : decode cX12_draw 324 = .ok (.bipush 8, 2) := by decide +kernel
theorem dX12_draw_326 : decode cX12_draw 326 = .ok (.iload 7, 2) := by decide +kernel
theorem dX12_draw_328 : decode cX12_draw 328 = .ok (.imul, 1) := by decide +kernel
theorem dX12_draw_329 : decode cX12_draw 329 = .ok (.bipush 8, 2) := by decide +kernel
theorem dX12_draw_331 : decode cX12_draw 331 = .ok (.isub, 1) := by decide +kernel
theorem dX12_draw_332 : decode cX12_draw 332 = .ok (.iload 8, 2) := by decide +kernel
theorem dX12_draw_334 : decode cX12_draw 334 = .ok (.iadd, 1) := by decide +kernel
theorem dX12_draw_335 : decode cX12_draw 335 = .ok (.iaload, 1) := by decide +kernel
theorem dX12_draw_336 : decode cX12_draw 336 = .ok (.aload_n 0, 1) := by decide +kernel
theorem dX12_draw_337 : decode cX12_draw 337 = .ok (.iload 7, 2) := by decide +kernel
theorem dX12_draw_339 : decode cX12_draw 339 = .ok (.iconst 1, 1) := by decide +kernel
theorem dX12_draw_340 : decode cX12_draw 340 = .ok (.isub, 1) := by decide +kernel
theorem dX12_draw_341 : decode cX12_draw 341 = .ok (.iload 8, 2) := by decide +kernel
theorem dX12_draw_343 : decode cX12_draw 343 = .ok (.iload 9, 2) := by decide +kernel
theorem dX12_draw_345 : decode cX12_draw 345 = .ok (.invokevirtual 398, 3) := by decide +kernel
theorem dX12_draw_348 : decode cX12_draw 348 = .ok (.iadd, 1) := by decide +kernel
theorem dX12_draw_349 : decode cX12_draw 349 = .ok (.aload_n 0, 1) := by decide +kernel
theorem dX12_draw_350 : decode cX12_draw 350 = .ok (.getfield 141, 3) := by decide +kernel
theorem dX12_draw_353 : decode cX12_draw 353 = .ok (.bipush 8, 2) := by decide +kernel
theorem dX12_draw_355 : decode cX12_draw 355 = .ok (.iload 7, 2) := by decide +kernel
theorem dX12_draw_357 : decode cX12_draw 357 = .ok (.imul, 1) := by decide +kernel
theorem dX12_draw_358 : decode cX12_draw 358 = .ok (.iload 9, 2) := by decide +kernel
theorem dX12_draw_360 : decode cX12_draw 360 = .ok (.iadd, 1) := by decide +kernel
theorem dX12_draw_361 : decode cX12_draw 361 = .ok (.iaload, 1) := by decide +kernel
theorem dX12_draw_362 : decode cX12_draw 362 = .ok (.iadd, 1) := by decide +kernel
theorem dX12_draw_363 : decode cX12_draw 363 = .ok (.aload_n 0, 1) := by decide +kernel
theorem dX12_draw_364 : decode cX12_draw 364 = .ok (.getfield 141, 3) := by decide +kernel
theorem dX12_draw_367 : decode cX12_draw 367 = .ok (.bipush 8, 2) := by decide +kernel
theorem dX12_draw_369 : decode cX12_draw 369 = .ok (.iload 7, 2) := by decide +kernel
theorem dX12_draw_371 : decode cX12_draw 371 = .ok (.imul, 1) := by decide +kernel
theorem dX12_draw_372 : decode cX12_draw 372 = .ok (.bipush 8, 2) := by decide +kernel
theorem dX12_draw_374 : decode cX12_draw 374 = .ok (.isub, 1) := by decide +kernel
theorem dX12_draw_375 : decode cX12_draw 375 = .ok (.iload 8, 2) := by decide +kernel
theorem dX12_draw_377 : decode cX12_draw 377 = .ok (.iadd, 1) := by decide +kernel
theorem dX12_draw_378 : decode cX12_draw 378 = .ok (.iaload, 1) := by decide +kernel
theorem dX12_draw_379 : decode cX12_draw 379 = .ok (.if_icmp .eq 9, 3) := by decide +kernel
theorem dX12_draw_382 : decode cX12_draw 382 = .ok (.iinc 9 1, 3) := by decide +kernel
theorem dX12_draw_385 : decode cX12_draw 385 = .ok (.goto (-65), 3) := by decide +kernel
theorem dX12_draw_388 : decode cX12_draw 388 = .ok (.aload_n 0, 1) := by decide +kernel
theorem dX12_draw_389 : decode cX12_draw 389 = .ok (.getfield 150, 3) := by decide +kernel
theorem dX12_draw_392 : decode cX12_draw 392 = .ok (.iload 7, 2) := by decide +kernel
theorem dX12_draw_394 : decode cX12_draw 394 = .ok (.iload 9, 2) := by decide +kernel
theorem dX12_draw_396 : decode cX12_draw 396 = .ok (.iastore, 1) := by decide +kernel
theorem dX12_draw_397 : decode cX12_draw 397 = .ok (.iinc 7 1, 3) := by decide +kernel
theorem dX12_draw_400 : decode cX12_draw 400 = .ok (.goto (-101), 3) := by decide +kernel
theorem dX12_draw_403 : decode cX12_draw 403 = .ok (.iload 6, 2) := by decide +kernel
theorem dX12_draw_405 : decode cX12_draw 405 = .ok (.ireturn, 1) := by decide +kernel
theorem dX12_drawn_0 : decode cX12_drawn 0 = .ok (.aload_n 0, 1) := by decide +kernel
theorem dX12_drawn_1 : decode cX12_drawn 1 = .ok (.iconst 0, 1) := by decide +kernel
theorem dX12_drawn_2 : decode cX12_drawn 2 = .ok (.putfield 171, 3) := by decide +kernel
theorem dX12_drawn_5 : decode cX12_drawn 5 = .ok (.iload_n 1, 1) := by decide +kernel
theorem dX12_drawn_6 : decode cX12_drawn 6 = .ok (.ifCond .lt 11, 3) := by decide +kernel
theorem dX12_drawn_9 : decode cX12_drawn 9 = .ok (.iload_n 1, 1) := by decide +kernel
theorem dX12_drawn_10 : decode cX12_drawn 10 = .ok (.aload_n 0, 1) := by decide +kernel
theorem dX12_drawn_11 : decode cX12_drawn 11 = .ok (.getfield 404, 3) := by decide +kernel
theorem dX12_drawn_14 : decode cX12_drawn 14 = .ok (.if_icmp .lt 7, 3) := by decide +kernel
theorem dX12_drawn_17 : decode cX12_drawn 17 = .ok (.iconst (-1), 1) := by decide +kernel
theorem dX12_drawn_18 : decode cX12_drawn 18 = .ok (.goto 9, 3) := by decide +kernel
theorem dX12_drawn_21 : decode cX12_drawn 21 = .ok (.aload_n 0, 1) := by decide +kernel
theorem dX12_drawn_22 : decode cX12_drawn 22 = .ok (.getfield 150, 3) := by decide +kernel
theorem dX12_drawn_25 : decode cX12_drawn 25 = .ok (.iload_n 1, 1) := by decide +kernel
theorem dX12_drawn_26 : decode cX12_drawn 26 = .ok (.iaload, 1) := by decide +kernel
theorem dX12_drawn_27 : decode cX12_drawn 27 = .ok (.ireturn, 1) := by decide +kernel
theorem dX12_steps_0 : decode cX12_steps 0 = .ok (.iload_n 1, 1) := by decide +kernel
theorem dX12_steps_1 : decode cX12_steps 1 = .ok (.aload_n 0, 1) := by decide +kernel
theorem dX12_steps_2 : decode cX12_steps 2 = .ok (.getfield 13, 3) := by decide +kernel
theorem dX12_steps_5 : decode cX12_steps 5 = .ok (.irem, 1) := by decide +kernel
theorem dX12_steps_6 : decode cX12_steps 6 = .ok (.iload_n 2, 1) := by decide +kernel
theorem dX12_steps_7 : decode cX12_steps 7 = .ok (.aload_n 0, 1) := by decide +kernel
theorem dX12_steps_8 : decode cX12_steps 8 = .ok (.getfield 13, 3) := by decide +kernel
theorem dX12_steps_11 : decode cX12_steps 11 = .ok (.irem, 1) := by decide +kernel
theorem dX12_steps_12 : decode cX12_steps 12 = .ok (.isub, 1) := by decide +kernel
theorem dX12_steps_13 : decode cX12_steps 13 = .ok (.invokestatic 359, 3) := by decide +kernel
theorem dX12_steps_16 : decode cX12_steps 16 = .ok (.iload_n 1, 1) := by decide +kernel
theorem dX12_steps_17 : decode cX12_steps 17 = .ok (.aload_n 0, 1) := by decide +kernel
theorem dX12_steps_18 : decode cX12_steps 18 = .ok (.getfield 13, 3) := by decide +kernel
theorem dX12_steps_21 : decode cX12_steps 21 = .ok (.idiv, 1) := by decide +kernel
theorem dX12_steps_22 : decode cX12_steps 22 = .ok (.iload_n 2, 1) := by decide +kernel
theorem dX12_steps_23 : decode cX12_steps 23 = .ok (.aload_n 0, 1) := by decide +kernel
theorem dX12_steps_24 : decode cX12_steps 24 = .ok (.getfield 13, 3) := by decide +kernel
theorem dX12_steps_27 : decode cX12_steps 27 = .ok (.idiv, 1) := by decide +kernel
theorem dX12_steps_28 : decode cX12_steps 28 = .ok (.isub, 1) := by decide +kernel
theorem dX12_steps_29 : decode cX12_steps 29 = .ok (.invokestatic 359, 3) := by decide +kernel
theorem dX12_steps_32 : decode cX12_steps 32 = .ok (.iadd, 1) := by decide +kernel
theorem dX12_steps_33 : decode cX12_steps 33 = .ok (.ireturn, 1) := by decide +kernel
theorem dX12_mayBore_0 : decode cX12_mayBore 0 = .ok (.aload_n 0, 1) := by decide +kernel
theorem dX12_mayBore_1 : decode cX12_mayBore 1 = .ok (.getfield 156, 3) := by decide +kernel
theorem dX12_mayBore_4 : decode cX12_mayBore 4 = .ok (.iload_n 1, 1) := by decide +kernel
theorem dX12_mayBore_5 : decode cX12_mayBore 5 = .ok (.baload, 1) := by decide +kernel
theorem dX12_mayBore_6 : decode cX12_mayBore 6 = .ok (.ifCond .ne 7, 3) := by decide +kernel
theorem dX12_mayBore_9 : decode cX12_mayBore 9 = .ok (.iconst 1, 1) := by decide +kernel
theorem dX12_mayBore_10 : decode cX12_mayBore 10 = .ok (.goto 4, 3) := by decide +kernel
theorem dX12_mayBore_13 : decode cX12_mayBore 13 = .ok (.iconst 0, 1) := by decide +kernel
theorem dX12_mayBore_14 : decode cX12_mayBore 14 = .ok (.ireturn, 1) := by decide +kernel
theorem dX12_better_0 : decode cX12_better 0 = .ok (.iload 5, 2) := by decide +kernel
theorem dX12_better_2 : decode cX12_better 2 = .ok (.iload 7, 2) := by decide +kernel
theorem dX12_better_4 : decode cX12_better 4 = .ok (.if_icmp .gt 30, 3) := by decide +kernel
theorem dX12_better_7 : decode cX12_better 7 = .ok (.iload 6, 2) := by decide +kernel
theorem dX12_better_9 : decode cX12_better 9 = .ok (.aload_n 0, 1) := by decide +kernel
theorem dX12_better_10 : decode cX12_better 10 = .ok (.getfield 407, 3) := by decide +kernel
theorem dX12_better_13 : decode cX12_better 13 = .ok (.if_icmp .lt 21, 3) := by decide +kernel
theorem dX12_better_16 : decode cX12_better 16 = .ok (.iload 6, 2) := by decide +kernel
theorem dX12_better_18 : decode cX12_better 18 = .ok (.aload_n 0, 1) := by decide +kernel
theorem dX12_better_19 : decode cX12_better 19 = .ok (.getfield 407, 3) := by decide +kernel
theorem dX12_better_22 : decode cX12_better 22 = .ok (.if_icmp .ne 13, 3) := by decide +kernel
theorem dX12_better_25 : decode cX12_better 25 = .ok (.iload 5, 2) := by decide +kernel
theorem dX12_better_27 : decode cX12_better 27 = .ok (.aload_n 0, 1) := by decide +kernel
theorem dX12_better_28 : decode cX12_better 28 = .ok (.getfield 410, 3) := by decide +kernel
theorem dX12_better_31 : decode cX12_better 31 = .ok (.if_icmp .lt 4, 3) := by decide +kernel
theorem dX12_better_34 : decode cX12_better 34 = .ok (.return_, 1) := by decide +kernel
theorem dX12_better_35 : decode cX12_better 35 = .ok (.aload_n 0, 1) := by decide +kernel
theorem dX12_better_36 : decode cX12_better 36 = .ok (.iload 6, 2) := by decide +kernel
theorem dX12_better_38 : decode cX12_better 38 = .ok (.putfield 407, 3) := by decide +kernel
theorem dX12_better_41 : decode cX12_better 41 = .ok (.aload_n 0, 1) := by decide +kernel
theorem dX12_better_42 : decode cX12_better 42 = .ok (.iload 5, 2) := by decide +kernel
theorem dX12_better_44 : decode cX12_better 44 = .ok (.putfield 410, 3) := by decide +kernel
theorem dX12_better_47 : decode cX12_better 47 = .ok (.aload_n 0, 1) := by decide +kernel
theorem dX12_better_48 : decode cX12_better 48 = .ok (.iload_n 1, 1) := by decide +kernel
theorem dX12_better_49 : decode cX12_better 49 = .ok (.putfield 413, 3) := by decide +kernel
theorem dX12_better_52 : decode cX12_better 52 = .ok (.aload_n 0, 1) := by decide +kernel
theorem dX12_better_53 : decode cX12_better 53 = .ok (.iload 5, 2) := by decide +kernel
theorem dX12_better_55 : decode cX12_better 55 = .ok (.putfield 416, 3) := by decide +kernel
theorem dX12_better_58 : decode cX12_better 58 = .ok (.aload_n 0, 1) := by decide +kernel
theorem dX12_better_59 : decode cX12_better 59 = .ok (.getfield 159, 3) := by decide +kernel
theorem dX12_better_62 : decode cX12_better 62 = .ok (.iconst 0, 1) := by decide +kernel
theorem dX12_better_63 : decode cX12_better 63 = .ok (.iload_n 2, 1) := by decide +kernel
theorem dX12_better_64 : decode cX12_better 64 = .ok (.iastore, 1) := by decide +kernel
theorem dX12_better_65 : decode cX12_better 65 = .ok (.aload_n 0, 1) := by decide +kernel
theorem dX12_better_66 : decode cX12_better 66 = .ok (.getfield 159, 3) := by decide +kernel
theorem dX12_better_69 : decode cX12_better 69 = .ok (.iconst 1, 1) := by decide +kernel
theorem dX12_better_70 : decode cX12_better 70 = .ok (.iload_n 3, 1) := by decide +kernel
theorem dX12_better_71 : decode cX12_better 71 = .ok (.iastore, 1) := by decide +kernel
theorem dX12_better_72 : decode cX12_better 72 = .ok (.aload_n 0, 1) := by decide +kernel
theorem dX12_better_73 : decode cX12_better 73 = .ok (.getfield 159, 3) := by decide +kernel
theorem dX12_better_76 : decode cX12_better 76 = .ok (.iconst 2, 1) := by decide +kernel
theorem dX12_better_77 : decode cX12_better 77 = .ok (.iload 4, 2) := by decide +kernel
theorem dX12_better_79 : decode cX12_better 79 = .ok (.iastore, 1) := by decide +kernel
theorem dX12_better_80 : decode cX12_better 80 = .ok (.return_, 1) := by decide +kernel
theorem dX12_plan_0 : decode cX12_plan 0 = .ok (.aload_n 0, 1) := by decide +kernel
theorem dX12_plan_1 : decode cX12_plan 1 = .ok (.iconst 0, 1) := by decide +kernel
theorem dX12_plan_2 : decode cX12_plan 2 = .ok (.putfield 171, 3) := by decide +kernel
theorem dX12_plan_5 : decode cX12_plan 5 = .ok (.iload_n 1, 1) := by decide +kernel
theorem dX12_plan_6 : decode cX12_plan 6 = .ok (.iconst 1, 1) := by decide +kernel
theorem dX12_plan_7 : decode cX12_plan 7 = .ok (.if_icmp .lt 34, 3) := by decide +kernel
theorem dX12_plan_10 : decode cX12_plan 10 = .ok (.iload_n 1, 1) := by decide +kernel
theorem dX12_plan_11 : decode cX12_plan 11 = .ok (.iconst 3, 1) := by decide +kernel
theorem dX12_plan_12 : decode cX12_plan 12 = .ok (.if_icmp .gt 29, 3) := by decide +kernel
theorem dX12_plan_15 : decode cX12_plan 15 = .ok (.iload_n 2, 1) := by decide +kernel
theorem dX12_plan_16 : decode cX12_plan 16 = .ok (.iconst 1, 1) := by decide +kernel
theorem dX12_plan_17 : decode cX12_plan 17 = .ok (.if_icmp .lt 24, 3) := by decide +kernel
theorem dX12_plan_20 : decode cX12_plan 20 = .ok (.iload_n 2, 1) := by decide +kernel
theorem dX12_plan_21 : decode cX12_plan 21 = .ok (.bipush 60, 2) := by decide +kernel
theorem dX12_plan_23 : decode cX12_plan 23 = .ok (.if_icmp .gt 18, 3) := by decide +kernel
theorem dX12_plan_26 : decode cX12_plan 26 = .ok (.aload_n 0, 1) := by decide +kernel
theorem dX12_plan_27 : decode cX12_plan 27 = .ok (.iload_n 3, 1) := by decide +kernel
theorem dX12_plan_28 : decode cX12_plan 28 = .ok (.invokevirtual 180, 3) := by decide +kernel
theorem dX12_plan_31 : decode cX12_plan 31 = .ok (.ifCond .eq 10, 3) := by decide +kernel
theorem dX12_plan_34 : decode cX12_plan 34 = .ok (.aload_n 0, 1) := by decide +kernel
theorem dX12_plan_35 : decode cX12_plan 35 = .ok (.getfield 330, 3) := by decide +kernel
theorem dX12_plan_38 : decode cX12_plan 38 = .ok (.ifCond .ne 5, 3) := by decide +kernel
theorem dX12_plan_41 : decode cX12_plan 41 = .ok (.iconst (-1), 1) := by decide +kernel
theorem dX12_plan_42 : decode cX12_plan 42 = .ok (.ireturn, 1) := by decide +kernel
theorem dX12_plan_43 : decode cX12_plan 43 = .ok (.aload_n 0, 1) := by decide +kernel
theorem dX12_plan_44 : decode cX12_plan 44 = .ok (.aload_n 0, 1) := by decide +kernel
theorem dX12_plan_45 : decode cX12_plan 45 = .ok (.getfield 174, 3) := by decide +kernel
theorem dX12_plan_48 : decode cX12_plan 48 = .ok (.invokevirtual 386, 3) := by decide +kernel
theorem dX12_plan_51 : decode cX12_plan 51 = .ok (.aload_n 0, 1) := by decide +kernel
theorem dX12_plan_52 : decode cX12_plan 52 = .ok (.getfield 13, 3) := by decide +kernel
theorem dX12_plan_55 : decode cX12_plan 55 = .ok (.aload_n 0, 1) := by decide +kernel
theorem dX12_plan_56 : decode cX12_plan 56 = .ok (.getfield 17, 3) := by decide +kernel
theorem dX12_plan_59 : decode cX12_plan 59 = .ok (.imul, 1) := by decide +kernel
theorem dX12_plan_60 : decode cX12_plan 60 = .ok (.istore 4, 2) := by decide +kernel
theorem dX12_plan_62 : decode cX12_plan 62 = .ok (.iconst 0, 1) := by decide +kernel
theorem dX12_plan_63 : decode cX12_plan 63 = .ok (.istore 5, 2) := by decide +kernel
theorem dX12_plan_65 : decode cX12_plan 65 = .ok (.iload 5, 2) := by decide +kernel
theorem dX12_plan_67 : decode cX12_plan 67 = .ok (.iload 4, 2) := by decide +kernel
theorem dX12_plan_69 : decode cX12_plan 69 = .ok (.if_icmp .ge 51, 3) := by decide +kernel
theorem dX12_plan_72 : decode cX12_plan 72 = .ok (.aload_n 0, 1) := by decide +kernel
theorem dX12_plan_73 : decode cX12_plan 73 = .ok (.getfield 156, 3) := by decide +kernel
theorem dX12_plan_76 : decode cX12_plan 76 = .ok (.iload 5, 2) := by decide +kernel
theorem dX12_plan_78 : decode cX12_plan 78 = .ok (.iconst 0, 1) := by decide +kernel
theorem dX12_plan_79 : decode cX12_plan 79 = .ok (.bastore, 1) := by decide +kernel
theorem dX12_plan_80 : decode cX12_plan 80 = .ok (.aload_n 0, 1) := by decide +kernel
theorem dX12_plan_81 : decode cX12_plan 81 = .ok (.iload 5, 2) := by decide +kernel
theorem dX12_plan_83 : decode cX12_plan 83 = .ok (.iconst (-1), 1) := by decide +kernel
theorem dX12_plan_84 : decode cX12_plan 84 = .ok (.invokevirtual 389, 3) := by decide +kernel
theorem dX12_plan_87 : decode cX12_plan 87 = .ok (.aload_n 0, 1) := by decide +kernel
theorem dX12_plan_88 : decode cX12_plan 88 = .ok (.getfield 153, 3) := by decide +kernel
theorem dX12_plan_91 : decode cX12_plan 91 = .ok (.iload 5, 2) := by decide +kernel
theorem dX12_plan_93 : decode cX12_plan 93 = .ok (.sipush 1000, 3) := by decide +kernel
theorem dX12_plan_96 : decode cX12_plan 96 = .ok (.aload_n 0, 1) := by decide +kernel
theorem dX12_plan_97 : decode cX12_plan 97 = .ok (.aload_n 0, 1) := by decide +kernel
theorem dX12_plan_98 : decode cX12_plan 98 = .ok (.invokevirtual 395, 3) := by decide +kernel
theorem dX12_plan_101 : decode cX12_plan 101 = .ok (.invokevirtual 392, 3) := by decide +kernel
theorem dX12_plan_104 : decode cX12_plan 104 = .ok (.isub, 1) := by decide +kernel
theorem dX12_plan_105 : decode cX12_plan 105 = .ok (.aload_n 0, 1) := by decide +kernel
theorem dX12_plan_106 : decode cX12_plan 106 = .ok (.getfield 29, 3) := by decide +kernel
theorem dX12_plan_109 : decode cX12_plan 109 = .ok (.iload 5, 2) := by decide +kernel
theorem dX12_plan_111 : decode cX12_plan 111 = .ok (.iaload, 1) := by decide +kernel
theorem dX12_plan_112 : decode cX12_plan 112 = .ok (.imul, 1) := by decide +kernel
theorem dX12_plan_113 : decode cX12_plan 113 = .ok (.iastore, 1) := by decide +kernel
theorem dX12_plan_114 : decode cX12_plan 114 = .ok (.iinc 5 1, 3) := by decide +kernel
theorem dX12_plan_117 : decode cX12_plan 117 = .ok (.goto (-52), 3) := by decide +kernel
theorem dX12_plan_120 : decode cX12_plan 120 = .ok (.iconst 0, 1) := by decide +kernel
theorem dX12_plan_121 : decode cX12_plan 121 = .ok (.istore 5, 2) := by decide +kernel
theorem dX12_plan_123 : decode cX12_plan 123 = .ok (.iload 5, 2) := by decide +kernel
theorem dX12_plan_125 : decode cX12_plan 125 = .ok (.aload_n 0, 1) := by decide +kernel
theorem dX12_plan_126 : decode cX12_plan 126 = .ok (.getfield 174, 3) := by decide +kernel
theorem dX12_plan_129 : decode cX12_plan 129 = .ok (.if_icmp .ge 32, 3) := by decide +kernel
theorem dX12_plan_132 : decode cX12_plan 132 = .ok (.aload_n 0, 1) := by decide +kernel
theorem dX12_plan_133 : decode cX12_plan 133 = .ok (.getfield 135, 3) := by decide +kernel
theorem dX12_plan_136 : decode cX12_plan 136 = .ok (.iload 5, 2) := by decide +kernel
theorem dX12_plan_138 : decode cX12_plan 138 = .ok (.iaload, 1) := by decide +kernel
theorem dX12_plan_139 : decode cX12_plan 139 = .ok (.ifCond .lt 16, 3) := by decide +kernel
theorem dX12_plan_142 : decode cX12_plan 142 = .ok (.aload_n 0, 1) := by decide +kernel
theorem dX12_plan_143 : decode cX12_plan 143 = .ok (.getfield 156, 3) := by decide +kernel
theorem dX12_plan_146 : decode cX12_plan 146 = .ok (.aload_n 0, 1) := by decide +kernel
theorem dX12_plan_147 : decode cX12_plan 147 = .ok (.getfield 65, 3) := by decide +kernel
theorem dX12_plan_150 : decode cX12_plan 150 = .ok (.iload 5, 2) := by decide +kernel
theorem dX12_plan_152 : decode cX12_plan 152 = .ok (.iaload, 1) := by decide +kernel
theorem dX12_plan_153 : decode cX12_plan 153 = .ok (.iconst 1, 1) := by decide +kernel
theorem dX12_plan_154 : decode cX12_plan 154 = .ok (.bastore, 1) := by decide +kernel
theorem dX12_plan_155 : decode cX12_plan 155 = .ok (.iinc 5 1, 3) := by decide +kernel
theorem dX12_plan_158 : decode cX12_plan 158 = .ok (.goto (-35), 3) := by decide +kernel
theorem dX12_plan_161 : decode cX12_plan 161 = .ok (.aload_n 0, 1) := by decide +kernel
theorem dX12_plan_162 : decode cX12_plan 162 = .ok (.iconst (-1), 1) := by decide +kernel
theorem dX12_plan_163 : decode cX12_plan 163 = .ok (.putfield 407, 3) := by decide +kernel
theorem dX12_plan_166 : decode cX12_plan 166 = .ok (.aload_n 0, 1) := by decide +kernel
theorem dX12_plan_167 : decode cX12_plan 167 = .ok (.iconst 0, 1) := by decide +kernel
theorem dX12_plan_168 : decode cX12_plan 168 = .ok (.putfield 410, 3) := by decide +kernel
theorem dX12_plan_171 : decode cX12_plan 171 = .ok (.iconst 0, 1) := by decide +kernel
theorem dX12_plan_172 : decode cX12_plan 172 = .ok (.istore 5, 2) := by decide +kernel
theorem dX12_plan_174 : decode cX12_plan 174 = .ok (.iload 5, 2) := by decide +kernel
theorem dX12_plan_176 : decode cX12_plan 176 = .ok (.iload 4, 2) := by decide +kernel
theorem dX12_plan_178 : decode cX12_plan 178 = .ok (.if_icmp .ge 254, 3) := by decide +kernel
theorem dX12_plan_181 : decode cX12_plan 181 = .ok (.aload_n 0, 1) := by decide +kernel
theorem dX12_plan_182 : decode cX12_plan 182 = .ok (.iload 5, 2) := by decide +kernel
theorem dX12_plan_184 : decode cX12_plan 184 = .ok (.invokevirtual 419, 3) := by decide +kernel
theorem dX12_plan_187 : decode cX12_plan 187 = .ok (.ifCond .ne 6, 3) := by decide +kernel
theorem dX12_plan_190 : decode cX12_plan 190 = .ok (.goto 236, 3) := by decide +kernel
theorem dX12_plan_193 : decode cX12_plan 193 = .ok (.aload_n 0, 1) := by decide +kernel
theorem dX12_plan_194 : decode cX12_plan 194 = .ok (.iload_n 3, 1) := by decide +kernel
theorem dX12_plan_195 : decode cX12_plan 195 = .ok (.iload 5, 2) := by decide +kernel
theorem dX12_plan_197 : decode cX12_plan 197 = .ok (.invokevirtual 422, 3) := by decide +kernel
theorem dX12_plan_200 : decode cX12_plan 200 = .ok (.iconst 1, 1) := by decide +kernel
theorem dX12_plan_201 : decode cX12_plan 201 = .ok (.iadd, 1) := by decide +kernel
theorem dX12_plan_202 : decode cX12_plan 202 = .ok (.istore 6, 2) := by decide +kernel
theorem dX12_plan_204 : decode cX12_plan 204 = .ok (.iload_n 1, 1) := by decide +kernel
theorem dX12_plan_205 : decode cX12_plan 205 = .ok (.iconst 1, 1) := by decide +kernel
theorem dX12_plan_206 : decode cX12_plan 206 = .ok (.if_icmp .ne 22, 3) := by decide +kernel
theorem dX12_plan_209 : decode cX12_plan 209 = .ok (.aload_n 0, 1) := by decide +kernel
theorem dX12_plan_210 : decode cX12_plan 210 = .ok (.iconst 1, 1) := by decide +kernel
theorem dX12_plan_211 : decode cX12_plan 211 = .ok (.iload 5, 2) := by decide +kernel
theorem dX12_plan_213 : decode cX12_plan 213 = .ok (.iconst (-1), 1) := by decide +kernel
theorem dX12_plan_214 : decode cX12_plan 214 = .ok (.iconst (-1), 1) := by decide +kernel
theorem dX12_plan_215 : decode cX12_plan 215 = .ok (.iload 6, 2) := by decide +kernel
theorem dX12_plan_217 : decode cX12_plan 217 = .ok (.aload_n 0, 1) := by decide +kernel
theorem dX12_plan_218 : decode cX12_plan 218 = .ok (.getfield 153, 3) := by decide +kernel
theorem dX12_plan_221 : decode cX12_plan 221 = .ok (.iload 5, 2) := by decide +kernel
theorem dX12_plan_223 : decode cX12_plan 223 = .ok (.iaload, 1) := by decide +kernel
theorem dX12_plan_224 : decode cX12_plan 224 = .ok (.iload_n 2, 1) := by decide +kernel
theorem dX12_plan_225 : decode cX12_plan 225 = .ok (.invokevirtual 425, 3) := by decide +kernel
theorem dX12_plan_228 : decode cX12_plan 228 = .ok (.iconst 0, 1) := by decide +kernel
theorem dX12_plan_229 : decode cX12_plan 229 = .ok (.istore 7, 2) := by decide +kernel
theorem dX12_plan_231 : decode cX12_plan 231 = .ok (.iload 7, 2) := by decide +kernel
theorem dX12_plan_233 : decode cX12_plan 233 = .ok (.iload 4, 2) := by decide +kernel
theorem dX12_plan_235 : decode cX12_plan 235 = .ok (.if_icmp .ge 191, 3) := by decide +kernel
theorem dX12_plan_238 : decode cX12_plan 238 = .ok (.iload_n 1, 1) := by decide +kernel
theorem dX12_plan_239 : decode cX12_plan 239 = .ok (.iconst 1, 1) := by decide +kernel
theorem dX12_plan_240 : decode cX12_plan 240 = .ok (.if_icmp .le 186, 3) := by decide +kernel
theorem dX12_plan_243 : decode cX12_plan 243 = .ok (.aload_n 0, 1) := by decide +kernel
theorem dX12_plan_244 : decode cX12_plan 244 = .ok (.iload 7, 2) := by decide +kernel
theorem dX12_plan_246 : decode cX12_plan 246 = .ok (.invokevirtual 419, 3) := by decide +kernel
theorem dX12_plan_249 : decode cX12_plan 249 = .ok (.ifCond .eq 171, 3) := by decide +kernel
theorem dX12_plan_252 : decode cX12_plan 252 = .ok (.aload_n 0, 1) := by decide +kernel
theorem dX12_plan_253 : decode cX12_plan 253 = .ok (.iload 5, 2) := by decide +kernel
theorem dX12_plan_255 : decode cX12_plan 255 = .ok (.iload 7, 2) := by decide +kernel
theorem dX12_plan_257 : decode cX12_plan 257 = .ok (.invokevirtual 374, 3) := by decide +kernel
theorem dX12_plan_260 : decode cX12_plan 260 = .ok (.iconst 2, 1) := by decide +kernel
theorem dX12_plan_261 : decode cX12_plan 261 = .ok (.if_icmp .ge 6, 3) := by decide +kernel
theorem dX12_plan_264 : decode cX12_plan 264 = .ok (.goto 156, 3) := by decide +kernel
theorem dX12_plan_267 : decode cX12_plan 267 = .ok (.iload 6, 2) := by decide +kernel
theorem dX12_plan_269 : decode cX12_plan 269 = .ok (.aload_n 0, 1) := by decide +kernel
theorem dX12_plan_270 : decode cX12_plan 270 = .ok (.iload 5, 2) := by decide +kernel
theorem dX12_plan_272 : decode cX12_plan 272 = .ok (.iload 7, 2) := by decide +kernel
theorem dX12_plan_274 : decode cX12_plan 274 = .ok (.invokevirtual 422, 3) := by decide +kernel
theorem dX12_plan_277 : decode cX12_plan 277 = .ok (.iadd, 1) := by decide +kernel
theorem dX12_plan_278 : decode cX12_plan 278 = .ok (.iconst 1, 1) := by decide +kernel
theorem dX12_plan_279 : decode cX12_plan 279 = .ok (.iadd, 1) := by decide +kernel
theorem dX12_plan_280 : decode cX12_plan 280 = .ok (.istore 8, 2) := by decide +kernel
theorem dX12_plan_282 : decode cX12_plan 282 = .ok (.iload_n 1, 1) := by decide +kernel
theorem dX12_plan_283 : decode cX12_plan 283 = .ok (.iconst 2, 1) := by decide +kernel
theorem dX12_plan_284 : decode cX12_plan 284 = .ok (.if_icmp .ne 31, 3) := by decide +kernel
theorem dX12_plan_287 : decode cX12_plan 287 = .ok (.aload_n 0, 1) := by decide +kernel
theorem dX12_plan_288 : decode cX12_plan 288 = .ok (.iconst 2, 1) := by decide +kernel
theorem dX12_plan_289 : decode cX12_plan 289 = .ok (.iload 5, 2) := by decide +kernel
theorem dX12_plan_291 : decode cX12_plan 291 = .ok (.iload 7, 2) := by decide +kernel
theorem dX12_plan_293 : decode cX12_plan 293 = .ok (.iconst (-1), 1) := by decide +kernel
theorem dX12_plan_294 : decode cX12_plan 294 = .ok (.iload 8, 2) := by decide +kernel
theorem dX12_plan_296 : decode cX12_plan 296 = .ok (.aload_n 0, 1) := by decide +kernel
theorem dX12_plan_297 : decode cX12_plan 297 = .ok (.getfield 153, 3) := by decide +kernel
theorem dX12_plan_300 : decode cX12_plan 300 = .ok (.iload 5, 2) := by decide +kernel
theorem dX12_plan_302 : decode cX12_plan 302 = .ok (.iaload, 1) := by decide +kernel
theorem dX12_plan_303 : decode cX12_plan 303 = .ok (.aload_n 0, 1) := by decide +kernel
theorem dX12_plan_304 : decode cX12_plan 304 = .ok (.getfield 153, 3) := by decide +kernel
theorem dX12_plan_307 : decode cX12_plan 307 = .ok (.iload 7, 2) := by decide +kernel
theorem dX12_plan_309 : decode cX12_plan 309 = .ok (.iaload, 1) := by decide +kernel
theorem dX12_plan_310 : decode cX12_plan 310 = .ok (.iadd, 1) := by decide +kernel
theorem dX12_plan_311 : decode cX12_plan 311 = .ok (.iload_n 2, 1) := by decide +kernel
theorem dX12_plan_312 : decode cX12_plan 312 = .ok (.invokevirtual 425, 3) := by decide +kernel
theorem dX12_plan_315 : decode cX12_plan 315 = .ok (.iconst 0, 1) := by decide +kernel
theorem dX12_plan_316 : decode cX12_plan 316 = .ok (.istore 9, 2) := by decide +kernel
theorem dX12_plan_318 : decode cX12_plan 318 = .ok (.iload 9, 2) := by decide +kernel
theorem dX12_plan_320 : decode cX12_plan 320 = .ok (.iload 4, 2) := by decide +kernel
theorem dX12_plan_322 : decode cX12_plan 322 = .ok (.if_icmp .ge 98, 3) := by decide +kernel
theorem dX12_plan_325 : decode cX12_plan 325 = .ok (.iload_n 1, 1) := by decide +kernel
theorem dX12_plan_326 : decode cX12_plan 326 = .ok (.iconst 2, 1) := by decide +kernel
theorem dX12_plan_327 : decode cX12_plan 327 = .ok (.if_icmp .le 93, 3) := by decide +kernel
theorem dX12_plan_330 : decode cX12_plan 330 = .ok (.aload_n 0, 1) := by decide +kernel
theorem dX12_plan_331 : decode cX12_plan 331 = .ok (.iload 9, 2) := by decide +kernel
theorem dX12_plan_333 : decode cX12_plan 333 = .ok (.invokevirtual 419, 3) := by decide +kernel
theorem dX12_plan_336 : decode cX12_plan 336 = .ok (.ifCond .eq 78, 3) := by decide +kernel
theorem dX12_plan_339 : decode cX12_plan 339 = .ok (.aload_n 0, 1) := by decide +kernel
theorem dX12_plan_340 : decode cX12_plan 340 = .ok (.iload 5, 2) := by decide +kernel
theorem dX12_plan_342 : decode cX12_plan 342 = .ok (.iload 9, 2) := by decide +kernel
theorem dX12_plan_344 : decode cX12_plan 344 = .ok (.invokevirtual 374, 3) := by decide +kernel
theorem dX12_plan_347 : decode cX12_plan 347 = .ok (.iconst 2, 1) := by decide +kernel
theorem dX12_plan_348 : decode cX12_plan 348 = .ok (.if_icmp .lt 66, 3) := by decide +kernel
theorem dX12_plan_351 : decode cX12_plan 351 = .ok (.aload_n 0, 1) := by decide +kernel
theorem dX12_plan_352 : decode cX12_plan 352 = .ok (.iload 7, 2) := by decide +kernel
theorem dX12_plan_354 : decode cX12_plan 354 = .ok (.iload 9, 2) := by decide +kernel
theorem dX12_plan_356 : decode cX12_plan 356 = .ok (.invokevirtual 374, 3) := by decide +kernel
theorem dX12_plan_359 : decode cX12_plan 359 = .ok (.iconst 2, 1) := by decide +kernel
theorem dX12_plan_360 : decode cX12_plan 360 = .ok (.if_icmp .ge 6, 3) := by decide +kernel
theorem dX12_plan_363 : decode cX12_plan 363 = .ok (.goto 51, 3) := by decide +kernel
theorem dX12_plan_366 : decode cX12_plan 366 = .ok (.aload_n 0, 1) := by decide +kernel
theorem dX12_plan_367 : decode cX12_plan 367 = .ok (.iconst 3, 1) := by decide +kernel
theorem dX12_plan_368 : decode cX12_plan 368 = .ok (.iload 5, 2) := by decide +kernel
theorem dX12_plan_370 : decode cX12_plan 370 = .ok (.iload 7, 2) := by decide +kernel
theorem dX12_plan_372 : decode cX12_plan 372 = .ok (.iload 9, 2) := by decide +kernel
theorem dX12_plan_374 : decode cX12_plan 374 = .ok (.iload 8, 2) := by decide +kernel
theorem dX12_plan_376 : decode cX12_plan 376 = .ok (.aload_n 0, 1) := by decide +kernel
theorem dX12_plan_377 : decode cX12_plan 377 = .ok (.iload 7, 2) := by decide +kernel
theorem dX12_plan_379 : decode cX12_plan 379 = .ok (.iload 9, 2) := by decide +kernel
theorem dX12_plan_381 : decode cX12_plan 381 = .ok (.invokevirtual 422, 3) := by decide +kernel
theorem dX12_plan_384 : decode cX12_plan 384 = .ok (.iadd, 1) := by decide +kernel
theorem dX12_plan_385 : decode cX12_plan 385 = .ok (.iconst 1, 1) := by decide +kernel
theorem dX12_plan_386 : decode cX12_plan 386 = .ok (.iadd, 1) := by decide +kernel
theorem dX12_plan_387 : decode cX12_plan 387 = .ok (.aload_n 0, 1) := by decide +kernel
theorem dX12_plan_388 : decode cX12_plan 388 = .ok (.getfield 153, 3) := by decide +kernel
theorem dX12_plan_391 : decode cX12_plan 391 = .ok (.iload 5, 2) := by decide +kernel
theorem dX12_plan_393 : decode cX12_plan 393 = .ok (.iaload, 1) := by decide +kernel
theorem dX12_plan_394 : decode cX12_plan 394 = .ok (.aload_n 0, 1) := by decide +kernel
theorem dX12_plan_395 : decode cX12_plan 395 = .ok (.getfield 153, 3) := by decide +kernel
theorem dX12_plan_398 : decode cX12_plan 398 = .ok (.iload 7, 2) := by decide +kernel
theorem dX12_plan_400 : decode cX12_plan 400 = .ok (.iaload, 1) := by decide +kernel
theorem dX12_plan_401 : decode cX12_plan 401 = .ok (.iadd, 1) := by decide +kernel
theorem dX12_plan_402 : decode cX12_plan 402 = .ok (.aload_n 0, 1) := by decide +kernel
theorem dX12_plan_403 : decode cX12_plan 403 = .ok (.getfield 153, 3) := by decide +kernel
theorem dX12_plan_406 : decode cX12_plan 406 = .ok (.iload 9, 2) := by decide +kernel
theorem dX12_plan_408 : decode cX12_plan 408 = .ok (.iaload, 1) := by decide +kernel
theorem dX12_plan_409 : decode cX12_plan 409 = .ok (.iadd, 1) := by decide +kernel
theorem dX12_plan_410 : decode cX12_plan 410 = .ok (.iload_n 2, 1) := by decide +kernel
theorem dX12_plan_411 : decode cX12_plan 411 = .ok (.invokevirtual 425, 3) := by decide +kernel
theorem dX12_plan_414 : decode cX12_plan 414 = .ok (.iinc 9 1, 3) := by decide +kernel
theorem dX12_plan_417 : decode cX12_plan 417 = .ok (.goto (-99), 3) := by decide +kernel
theorem dX12_plan_420 : decode cX12_plan 420 = .ok (.iinc 7 1, 3) := by decide +kernel
theorem dX12_plan_423 : decode cX12_plan 423 = .ok (.goto (-192), 3) := by decide +kernel
theorem dX12_plan_426 : decode cX12_plan 426 = .ok (.iinc 5 1, 3) := by decide +kernel
theorem dX12_plan_429 : decode cX12_plan 429 = .ok (.goto (-255), 3) := by decide +kernel
theorem dX12_plan_432 : decode cX12_plan 432 = .ok (.aload_n 0, 1) := by decide +kernel
theorem dX12_plan_433 : decode cX12_plan 433 = .ok (.getfield 407, 3) := by decide +kernel
theorem dX12_plan_436 : decode cX12_plan 436 = .ok (.ireturn, 1) := by decide +kernel
theorem dX12_planned_0 : decode cX12_planned 0 = .ok (.aload_n 0, 1) := by decide +kernel
theorem dX12_planned_1 : decode cX12_planned 1 = .ok (.iconst 0, 1) := by decide +kernel
theorem dX12_planned_2 : decode cX12_planned 2 = .ok (.putfield 171, 3) := by decide +kernel
theorem dX12_planned_5 : decode cX12_planned 5 = .ok (.aload_n 0, 1) := by decide +kernel
theorem dX12_planned_6 : decode cX12_planned 6 = .ok (.getfield 413, 3) := by decide +kernel
theorem dX12_planned_9 : decode cX12_planned 9 = .ok (.ifCond .ne 5, 3) := by decide +kernel
theorem dX12_planned_12 : decode cX12_planned 12 = .ok (.iconst (-1), 1) := by decide +kernel
theorem dX12_planned_13 : decode cX12_planned 13 = .ok (.ireturn, 1) := by decide +kernel
theorem dX12_planned_14 : decode cX12_planned 14 = .ok (.iload_n 1, 1) := by decide +kernel
theorem dX12_planned_15 : decode cX12_planned 15 = .ok (.ifCond .ne 28, 3) := by decide +kernel
theorem dX12_planned_18 : decode cX12_planned 18 = .ok (.iload_n 2, 1) := by decide +kernel
theorem dX12_planned_19 : decode cX12_planned 19 = .ok (.ifCond .lt 11, 3) := by decide +kernel
theorem dX12_planned_22 : decode cX12_planned 22 = .ok (.iload_n 2, 1) := by decide +kernel
theorem dX12_planned_23 : decode cX12_planned 23 = .ok (.aload_n 0, 1) := by decide +kernel
theorem dX12_planned_24 : decode cX12_planned 24 = .ok (.getfield 413, 3) := by decide +kernel
theorem dX12_planned_27 : decode cX12_planned 27 = .ok (.if_icmp .lt 7, 3) := by decide +kernel
theorem dX12_planned_30 : decode cX12_planned 30 = .ok (.iconst (-1), 1) := by decide +kernel
theorem dX12_planned_31 : decode cX12_planned 31 = .ok (.goto 25, 3) := by decide +kernel
theorem dX12_planned_34 : decode cX12_planned 34 = .ok (.aload_n 0, 1) := by decide +kernel
theorem dX12_planned_35 : decode cX12_planned 35 = .ok (.getfield 159, 3) := by decide +kernel
theorem dX12_planned_38 : decode cX12_planned 38 = .ok (.iload_n 2, 1) := by decide +kernel
theorem dX12_planned_39 : decode cX12_planned 39 = .ok (.iaload, 1) := by decide +kernel
theorem dX12_planned_40 : decode cX12_planned 40 = .ok (.goto 16, 3) := by decide +kernel
theorem dX12_planned_43 : decode cX12_planned 43 = .ok (.iload_n 1, 1) := by decide +kernel
theorem dX12_planned_44 : decode cX12_planned 44 = .ok (.iconst 1, 1) := by decide +kernel
theorem dX12_planned_45 : decode cX12_planned 45 = .ok (.if_icmp .ne 10, 3) := by decide +kernel
theorem dX12_planned_48 : decode cX12_planned 48 = .ok (.aload_n 0, 1) := by decide +kernel
theorem dX12_planned_49 : decode cX12_planned 49 = .ok (.getfield 416, 3) := by decide +kernel
theorem dX12_planned_52 : decode cX12_planned 52 = .ok (.goto 4, 3) := by decide +kernel
theorem dX12_planned_55 : decode cX12_planned 55 = .ok (.iconst (-1), 1) := by decide +kernel
theorem dX12_planned_56 : decode cX12_planned 56 = .ok (.ireturn, 1) := by decide +kernel
theorem dX12_boresOf_0 : decode cX12_boresOf 0 = .ok (.iconst 0, 1) := by decide +kernel
theorem dX12_boresOf_1 : decode cX12_boresOf 1 = .ok (.istore_n 3, 1) := by decide +kernel
theorem dX12_boresOf_2 : decode cX12_boresOf 2 = .ok (.iconst 0, 1) := by decide +kernel
theorem dX12_boresOf_3 : decode cX12_boresOf 3 = .ok (.istore 4, 2) := by decide +kernel
theorem dX12_boresOf_5 : decode cX12_boresOf 5 = .ok (.iload 4, 2) := by decide +kernel
theorem dX12_boresOf_7 : decode cX12_boresOf 7 = .ok (.aload_n 0, 1) := by decide +kernel
theorem dX12_boresOf_8 : decode cX12_boresOf 8 = .ok (.getfield 174, 3) := by decide +kernel
theorem dX12_boresOf_11 : decode cX12_boresOf 11 = .ok (.if_icmp .ge 44, 3) := by decide +kernel
theorem dX12_boresOf_14 : decode cX12_boresOf 14 = .ok (.iload_n 3, 1) := by decide +kernel
theorem dX12_boresOf_15 : decode cX12_boresOf 15 = .ok (.aload_n 0, 1) := by decide +kernel
theorem dX12_boresOf_16 : decode cX12_boresOf 16 = .ok (.getfield 135, 3) := by decide +kernel
theorem dX12_boresOf_19 : decode cX12_boresOf 19 = .ok (.iload 4, 2) := by decide +kernel
theorem dX12_boresOf_21 : decode cX12_boresOf 21 = .ok (.iaload, 1) := by decide +kernel
theorem dX12_boresOf_22 : decode cX12_boresOf 22 = .ok (.iload_n 2, 1) := by decide +kernel
theorem dX12_boresOf_23 : decode cX12_boresOf 23 = .ok (.if_icmp .ne 23, 3) := by decide +kernel
theorem dX12_boresOf_26 : decode cX12_boresOf 26 = .ok (.aload_n 0, 1) := by decide +kernel
theorem dX12_boresOf_27 : decode cX12_boresOf 27 = .ok (.getfield 32, 3) := by decide +kernel
theorem dX12_boresOf_30 : decode cX12_boresOf 30 = .ok (.aload_n 0, 1) := by decide +kernel
theorem dX12_boresOf_31 : decode cX12_boresOf 31 = .ok (.getfield 65, 3) := by decide +kernel
theorem dX12_boresOf_34 : decode cX12_boresOf 34 = .ok (.iload 4, 2) := by decide +kernel
theorem dX12_boresOf_36 : decode cX12_boresOf 36 = .ok (.iaload, 1) := by decide +kernel
theorem dX12_boresOf_37 : decode cX12_boresOf 37 = .ok (.iaload, 1) := by decide +kernel
theorem dX12_boresOf_38 : decode cX12_boresOf 38 = .ok (.iload_n 1, 1) := by decide +kernel
theorem dX12_boresOf_39 : decode cX12_boresOf 39 = .ok (.if_icmp .ne 7, 3) := by decide +kernel
theorem dX12_boresOf_42 : decode cX12_boresOf 42 = .ok (.iconst 1, 1) := by decide +kernel
theorem dX12_boresOf_43 : decode cX12_boresOf 43 = .ok (.goto 4, 3) := by decide +kernel
theorem dX12_boresOf_46 : decode cX12_boresOf 46 = .ok (.iconst 0, 1) := by decide +kernel
theorem dX12_boresOf_47 : decode cX12_boresOf 47 = .ok (.iadd, 1) := by decide +kernel
theorem dX12_boresOf_48 : decode cX12_boresOf 48 = .ok (.istore_n 3, 1) := by decide +kernel
theorem dX12_boresOf_49 : decode cX12_boresOf 49 = .ok (.iinc 4 1, 3) := by decide +kernel
theorem dX12_boresOf_52 : decode cX12_boresOf 52 = .ok (.goto (-47), 3) := by decide +kernel
theorem dX12_boresOf_55 : decode cX12_boresOf 55 = .ok (.iload_n 3, 1) := by decide +kernel
theorem dX12_boresOf_56 : decode cX12_boresOf 56 = .ok (.ireturn, 1) := by decide +kernel
theorem dX12_turnedTo_0 : decode cX12_turnedTo 0 = .ok (.iconst (-1), 1) := by decide +kernel
theorem dX12_turnedTo_1 : decode cX12_turnedTo 1 = .ok (.istore_n 2, 1) := by decide +kernel
theorem dX12_turnedTo_2 : decode cX12_turnedTo 2 = .ok (.iconst 0, 1) := by decide +kernel
theorem dX12_turnedTo_3 : decode cX12_turnedTo 3 = .ok (.istore_n 3, 1) := by decide +kernel
theorem dX12_turnedTo_4 : decode cX12_turnedTo 4 = .ok (.iload_n 3, 1) := by decide +kernel
theorem dX12_turnedTo_5 : decode cX12_turnedTo 5 = .ok (.aload_n 0, 1) := by decide +kernel
theorem dX12_turnedTo_6 : decode cX12_turnedTo 6 = .ok (.getfield 330, 3) := by decide +kernel
theorem dX12_turnedTo_9 : decode cX12_turnedTo 9 = .ok (.if_icmp .ge 39, 3) := by decide +kernel
theorem dX12_turnedTo_12 : decode cX12_turnedTo 12 = .ok (.aload_n 0, 1) := by decide +kernel
theorem dX12_turnedTo_13 : decode cX12_turnedTo 13 = .ok (.iload_n 1, 1) := by decide +kernel
theorem dX12_turnedTo_14 : decode cX12_turnedTo 14 = .ok (.iload_n 3, 1) := by decide +kernel
theorem dX12_turnedTo_15 : decode cX12_turnedTo 15 = .ok (.invokevirtual 429, 3) := by decide +kernel
theorem dX12_turnedTo_18 : decode cX12_turnedTo 18 = .ok (.istore 4, 2) := by decide +kernel
theorem dX12_turnedTo_20 : decode cX12_turnedTo 20 = .ok (.iload 4, 2) := by decide +kernel
theorem dX12_turnedTo_22 : decode cX12_turnedTo 22 = .ok (.ifCond .le 20, 3) := by decide +kernel
theorem dX12_turnedTo_25 : decode cX12_turnedTo 25 = .ok (.iload_n 2, 1) := by decide +kernel
theorem dX12_turnedTo_26 : decode cX12_turnedTo 26 = .ok (.ifCond .lt 14, 3) := by decide +kernel
theorem dX12_turnedTo_29 : decode cX12_turnedTo 29 = .ok (.iload 4, 2) := by decide +kernel
theorem dX12_turnedTo_31 : decode cX12_turnedTo 31 = .ok (.aload_n 0, 1) := by decide +kernel
theorem dX12_turnedTo_32 : decode cX12_turnedTo 32 = .ok (.iload_n 1, 1) := by decide +kernel
theorem dX12_turnedTo_33 : decode cX12_turnedTo 33 = .ok (.iload_n 2, 1) := by decide +kernel
theorem dX12_turnedTo_34 : decode cX12_turnedTo 34 = .ok (.invokevirtual 429, 3) := by decide +kernel
theorem dX12_turnedTo_37 : decode cX12_turnedTo 37 = .ok (.if_icmp .le 5, 3) := by decide +kernel
theorem dX12_turnedTo_40 : decode cX12_turnedTo 40 = .ok (.iload_n 3, 1) := by decide +kernel
theorem dX12_turnedTo_41 : decode cX12_turnedTo 41 = .ok (.istore_n 2, 1) := by decide +kernel
theorem dX12_turnedTo_42 : decode cX12_turnedTo 42 = .ok (.iinc 3 1, 3) := by decide +kernel
theorem dX12_turnedTo_45 : decode cX12_turnedTo 45 = .ok (.goto (-41), 3) := by decide +kernel
theorem dX12_turnedTo_48 : decode cX12_turnedTo 48 = .ok (.iload_n 2, 1) := by decide +kernel
theorem dX12_turnedTo_49 : decode cX12_turnedTo 49 = .ok (.ireturn, 1) := by decide +kernel
theorem dX12_turned_0 : decode cX12_turned 0 = .ok (.aload_n 0, 1) := by decide +kernel
theorem dX12_turned_1 : decode cX12_turned 1 = .ok (.iconst 0, 1) := by decide +kernel
theorem dX12_turned_2 : decode cX12_turned 2 = .ok (.putfield 171, 3) := by decide +kernel
theorem dX12_turned_5 : decode cX12_turned 5 = .ok (.iload_n 1, 1) := by decide +kernel
theorem dX12_turned_6 : decode cX12_turned 6 = .ok (.ifCond .lt 18, 3) := by decide +kernel
theorem dX12_turned_9 : decode cX12_turned 9 = .ok (.iload_n 1, 1) := by decide +kernel
theorem dX12_turned_10 : decode cX12_turned 10 = .ok (.iconst 5, 1) := by decide +kernel
theorem dX12_turned_11 : decode cX12_turned 11 = .ok (.if_icmp .gt 13, 3) := by decide +kernel
theorem dX12_turned_14 : decode cX12_turned 14 = .ok (.iload_n 2, 1) := by decide +kernel
theorem dX12_turned_15 : decode cX12_turned 15 = .ok (.ifCond .lt 9, 3) := by decide +kernel
theorem dX12_turned_18 : decode cX12_turned 18 = .ok (.iload_n 2, 1) := by decide +kernel
theorem dX12_turned_19 : decode cX12_turned 19 = .ok (.bipush 8, 2) := by decide +kernel
theorem dX12_turned_21 : decode cX12_turned 21 = .ok (.if_icmp .le 6, 3) := by decide +kernel
theorem dX12_turned_24 : decode cX12_turned 24 = .ok (.bipush (-2), 2) := by decide +kernel
theorem dX12_turned_26 : decode cX12_turned 26 = .ok (.ireturn, 1) := by decide +kernel
theorem dX12_turned_27 : decode cX12_turned 27 = .ok (.aload_n 0, 1) := by decide +kernel
theorem dX12_turned_28 : decode cX12_turned 28 = .ok (.aload_n 0, 1) := by decide +kernel
theorem dX12_turned_29 : decode cX12_turned 29 = .ok (.getfield 174, 3) := by decide +kernel
theorem dX12_turned_32 : decode cX12_turned 32 = .ok (.invokevirtual 386, 3) := by decide +kernel
theorem dX12_turned_35 : decode cX12_turned 35 = .ok (.iload_n 2, 1) := by decide +kernel
theorem dX12_turned_36 : decode cX12_turned 36 = .ok (.bipush 8, 2) := by decide +kernel
theorem dX12_turned_38 : decode cX12_turned 38 = .ok (.if_icmp .ne 11, 3) := by decide +kernel
theorem dX12_turned_41 : decode cX12_turned 41 = .ok (.aload_n 0, 1) := by decide +kernel
theorem dX12_turned_42 : decode cX12_turned 42 = .ok (.iload_n 1, 1) := by decide +kernel
theorem dX12_turned_43 : decode cX12_turned 43 = .ok (.invokevirtual 432, 3) := by decide +kernel
theorem dX12_turned_46 : decode cX12_turned 46 = .ok (.goto 21, 3) := by decide +kernel
theorem dX12_turned_49 : decode cX12_turned 49 = .ok (.iload_n 2, 1) := by decide +kernel
theorem dX12_turned_50 : decode cX12_turned 50 = .ok (.aload_n 0, 1) := by decide +kernel
theorem dX12_turned_51 : decode cX12_turned 51 = .ok (.getfield 330, 3) := by decide +kernel
theorem dX12_turned_54 : decode cX12_turned 54 = .ok (.if_icmp .ge 12, 3) := by decide +kernel
theorem dX12_turned_57 : decode cX12_turned 57 = .ok (.aload_n 0, 1) := by decide +kernel
theorem dX12_turned_58 : decode cX12_turned 58 = .ok (.iload_n 1, 1) := by decide +kernel
theorem dX12_turned_59 : decode cX12_turned 59 = .ok (.iload_n 2, 1) := by decide +kernel
theorem dX12_turned_60 : decode cX12_turned 60 = .ok (.invokevirtual 429, 3) := by decide +kernel
theorem dX12_turned_63 : decode cX12_turned 63 = .ok (.goto 4, 3) := by decide +kernel
theorem dX12_turned_66 : decode cX12_turned 66 = .ok (.iconst 0, 1) := by decide +kernel
theorem dX12_turned_67 : decode cX12_turned 67 = .ok (.ireturn, 1) := by decide +kernel
theorem dX12_turnedAt_0 : decode cX12_turnedAt 0 = .ok (.aload_n 0, 1) := by decide +kernel
theorem dX12_turnedAt_1 : decode cX12_turnedAt 1 = .ok (.getfield 32, 3) := by decide +kernel
theorem dX12_turnedAt_4 : decode cX12_turnedAt 4 = .ok (.iload_n 1, 1) := by decide +kernel
theorem dX12_turnedAt_5 : decode cX12_turnedAt 5 = .ok (.iaload, 1) := by decide +kernel
theorem dX12_turnedAt_6 : decode cX12_turnedAt 6 = .ok (.ifCond .ge 7, 3) := by decide +kernel
theorem dX12_turnedAt_9 : decode cX12_turnedAt 9 = .ok (.iconst (-1), 1) := by decide +kernel
theorem dX12_turnedAt_10 : decode cX12_turnedAt 10 = .ok (.goto 13, 3) := by decide +kernel
theorem dX12_turnedAt_13 : decode cX12_turnedAt 13 = .ok (.aload_n 0, 1) := by decide +kernel
theorem dX12_turnedAt_14 : decode cX12_turnedAt 14 = .ok (.aload_n 0, 1) := by decide +kernel
theorem dX12_turnedAt_15 : decode cX12_turnedAt 15 = .ok (.getfield 32, 3) := by decide +kernel
theorem dX12_turnedAt_18 : decode cX12_turnedAt 18 = .ok (.iload_n 1, 1) := by decide +kernel
theorem dX12_turnedAt_19 : decode cX12_turnedAt 19 = .ok (.iaload, 1) := by decide +kernel
theorem dX12_turnedAt_20 : decode cX12_turnedAt 20 = .ok (.invokevirtual 432, 3) := by decide +kernel
theorem dX12_turnedAt_23 : decode cX12_turnedAt 23 = .ok (.ireturn, 1) := by decide +kernel
theorem dX12_bestAt_0 : decode cX12_bestAt 0 = .ok (.aload_n 0, 1) := by decide +kernel
theorem dX12_bestAt_1 : decode cX12_bestAt 1 = .ok (.iload_n 1, 1) := by decide +kernel
theorem dX12_bestAt_2 : decode cX12_bestAt 2 = .ok (.iconst (-1), 1) := by decide +kernel
theorem dX12_bestAt_3 : decode cX12_bestAt 3 = .ok (.invokevirtual 389, 3) := by decide +kernel
theorem dX12_bestAt_6 : decode cX12_bestAt 6 = .ok (.aload_n 0, 1) := by decide +kernel
theorem dX12_bestAt_7 : decode cX12_bestAt 7 = .ok (.invokevirtual 395, 3) := by decide +kernel
theorem dX12_bestAt_10 : decode cX12_bestAt 10 = .ok (.ireturn, 1) := by decide +kernel
theorem dX12_maps_0 : decode cX12_maps 0 = .ok (.aload_n 0, 1) := by decide +kernel
theorem dX12_maps_1 : decode cX12_maps 1 = .ok (.iconst 0, 1) := by decide +kernel
theorem dX12_maps_2 : decode cX12_maps 2 = .ok (.putfield 171, 3) := by decide +kernel
theorem dX12_maps_5 : decode cX12_maps 5 = .ok (.iload_n 1, 1) := by decide +kernel
theorem dX12_maps_6 : decode cX12_maps 6 = .ok (.ifCond .lt 26, 3) := by decide +kernel
theorem dX12_maps_9 : decode cX12_maps 9 = .ok (.iload_n 1, 1) := by decide +kernel
theorem dX12_maps_10 : decode cX12_maps 10 = .ok (.iconst 2, 1) := by decide +kernel
theorem dX12_maps_11 : decode cX12_maps 11 = .ok (.if_icmp .gt 21, 3) := by decide +kernel
theorem dX12_maps_14 : decode cX12_maps 14 = .ok (.iload_n 1, 1) := by decide +kernel
theorem dX12_maps_15 : decode cX12_maps 15 = .ok (.ifCond .le 19, 3) := by decide +kernel
theorem dX12_maps_18 : decode cX12_maps 18 = .ok (.iload_n 2, 1) := by decide +kernel
theorem dX12_maps_19 : decode cX12_maps 19 = .ok (.ifCond .lt 13, 3) := by decide +kernel
theorem dX12_maps_22 : decode cX12_maps 22 = .ok (.iload_n 2, 1) := by decide +kernel
theorem dX12_maps_23 : decode cX12_maps 23 = .ok (.aload_n 0, 1) := by decide +kernel
theorem dX12_maps_24 : decode cX12_maps 24 = .ok (.getfield 13, 3) := by decide +kernel
theorem dX12_maps_27 : decode cX12_maps 27 = .ok (.iconst 1, 1) := by decide +kernel
theorem dX12_maps_28 : decode cX12_maps 28 = .ok (.isub, 1) := by decide +kernel
theorem dX12_maps_29 : decode cX12_maps 29 = .ok (.if_icmp .lt 5, 3) := by decide +kernel
theorem dX12_maps_32 : decode cX12_maps 32 = .ok (.iconst (-1), 1) := by decide +kernel
theorem dX12_maps_33 : decode cX12_maps 33 = .ok (.ireturn, 1) := by decide +kernel
theorem dX12_maps_34 : decode cX12_maps 34 = .ok (.aload_n 0, 1) := by decide +kernel
theorem dX12_maps_35 : decode cX12_maps 35 = .ok (.aload_n 0, 1) := by decide +kernel
theorem dX12_maps_36 : decode cX12_maps 36 = .ok (.getfield 174, 3) := by decide +kernel
theorem dX12_maps_39 : decode cX12_maps 39 = .ok (.invokevirtual 386, 3) := by decide +kernel
theorem dX12_maps_42 : decode cX12_maps 42 = .ok (.iconst 0, 1) := by decide +kernel
theorem dX12_maps_43 : decode cX12_maps 43 = .ok (.istore_n 3, 1) := by decide +kernel
theorem dX12_maps_44 : decode cX12_maps 44 = .ok (.aload_n 0, 1) := by decide +kernel
theorem dX12_maps_45 : decode cX12_maps 45 = .ok (.getfield 330, 3) := by decide +kernel
theorem dX12_maps_48 : decode cX12_maps 48 = .ok (.ifCond .ne 5, 3) := by decide +kernel
theorem dX12_maps_51 : decode cX12_maps 51 = .ok (.iconst 0, 1) := by decide +kernel
theorem dX12_maps_52 : decode cX12_maps 52 = .ok (.ireturn, 1) := by decide +kernel
theorem dX12_maps_53 : decode cX12_maps 53 = .ok (.iload_n 1, 1) := by decide +kernel
theorem dX12_maps_54 : decode cX12_maps 54 = .ok (.ifCond .ne 60, 3) := by decide +kernel
theorem dX12_maps_57 : decode cX12_maps 57 = .ok (.iconst 0, 1) := by decide +kernel
theorem dX12_maps_58 : decode cX12_maps 58 = .ok (.istore 4, 2) := by decide +kernel
theorem dX12_maps_60 : decode cX12_maps 60 = .ok (.iload 4, 2) := by decide +kernel
theorem dX12_maps_62 : decode cX12_maps 62 = .ok (.aload_n 0, 1) := by decide +kernel
theorem dX12_maps_63 : decode cX12_maps 63 = .ok (.getfield 13, 3) := by decide +kernel
theorem dX12_maps_66 : decode cX12_maps 66 = .ok (.aload_n 0, 1) := by decide +kernel
theorem dX12_maps_67 : decode cX12_maps 67 = .ok (.getfield 17, 3) := by decide +kernel
theorem dX12_maps_70 : decode cX12_maps 70 = .ok (.imul, 1) := by decide +kernel
theorem dX12_maps_71 : decode cX12_maps 71 = .ok (.if_icmp .ge 41, 3) := by decide +kernel
theorem dX12_maps_74 : decode cX12_maps 74 = .ok (.iload_n 3, 1) := by decide +kernel
theorem dX12_maps_75 : decode cX12_maps 75 = .ok (.aload_n 0, 1) := by decide +kernel
theorem dX12_maps_76 : decode cX12_maps 76 = .ok (.iload 4, 2) := by decide +kernel
theorem dX12_maps_78 : decode cX12_maps 78 = .ok (.invokevirtual 435, 3) := by decide +kernel
theorem dX12_maps_81 : decode cX12_maps 81 = .ok (.ifCond .lt 22, 3) := by decide +kernel
theorem dX12_maps_84 : decode cX12_maps 84 = .ok (.aload_n 0, 1) := by decide +kernel
theorem dX12_maps_85 : decode cX12_maps 85 = .ok (.iload 4, 2) := by decide +kernel
theorem dX12_maps_87 : decode cX12_maps 87 = .ok (.invokevirtual 435, 3) := by decide +kernel
theorem dX12_maps_90 : decode cX12_maps 90 = .ok (.aload_n 0, 1) := by decide +kernel
theorem dX12_maps_91 : decode cX12_maps 91 = .ok (.iload 4, 2) := by decide +kernel
theorem dX12_maps_93 : decode cX12_maps 93 = .ok (.invokevirtual 438, 3) := by decide +kernel
theorem dX12_maps_96 : decode cX12_maps 96 = .ok (.if_icmp .ne 7, 3) := by decide +kernel
theorem dX12_maps_99 : decode cX12_maps 99 = .ok (.iconst 1, 1) := by decide +kernel
theorem dX12_maps_100 : decode cX12_maps 100 = .ok (.goto 4, 3) := by decide +kernel
theorem dX12_maps_103 : decode cX12_maps 103 = .ok (.iconst 0, 1) := by decide +kernel
theorem dX12_maps_104 : decode cX12_maps 104 = .ok (.iadd, 1) := by decide +kernel
theorem dX12_maps_105 : decode cX12_maps 105 = .ok (.istore_n 3, 1) := by decide +kernel
theorem dX12_maps_106 : decode cX12_maps 106 = .ok (.iinc 4 1, 3) := by decide +kernel
theorem dX12_maps_109 : decode cX12_maps 109 = .ok (.goto (-49), 3) := by decide +kernel
theorem dX12_maps_112 : decode cX12_maps 112 = .ok (.iload_n 3, 1) := by decide +kernel
theorem dX12_maps_113 : decode cX12_maps 113 = .ok (.ireturn, 1) := by decide +kernel
theorem dX12_maps_114 : decode cX12_maps 114 = .ok (.iconst 0, 1) := by decide +kernel
theorem dX12_maps_115 : decode cX12_maps 115 = .ok (.istore 4, 2) := by decide +kernel
theorem dX12_maps_117 : decode cX12_maps 117 = .ok (.iload 4, 2) := by decide +kernel
theorem dX12_maps_119 : decode cX12_maps 119 = .ok (.aload_n 0, 1) := by decide +kernel
theorem dX12_maps_120 : decode cX12_maps 120 = .ok (.getfield 17, 3) := by decide +kernel
theorem dX12_maps_123 : decode cX12_maps 123 = .ok (.if_icmp .ge 98, 3) := by decide +kernel
theorem dX12_maps_126 : decode cX12_maps 126 = .ok (.aload_n 0, 1) := by decide +kernel
theorem dX12_maps_127 : decode cX12_maps 127 = .ok (.getfield 13, 3) := by decide +kernel
theorem dX12_maps_130 : decode cX12_maps 130 = .ok (.iload 4, 2) := by decide +kernel
theorem dX12_maps_132 : decode cX12_maps 132 = .ok (.imul, 1) := by decide +kernel
theorem dX12_maps_133 : decode cX12_maps 133 = .ok (.iload_n 2, 1) := by decide +kernel
theorem dX12_maps_134 : decode cX12_maps 134 = .ok (.iadd, 1) := by decide +kernel
theorem dX12_maps_135 : decode cX12_maps 135 = .ok (.istore 5, 2) := by decide +kernel
theorem dX12_maps_137 : decode cX12_maps 137 = .ok (.iload_n 1, 1) := by decide +kernel
theorem dX12_maps_138 : decode cX12_maps 138 = .ok (.iconst 1, 1) := by decide +kernel
theorem dX12_maps_139 : decode cX12_maps 139 = .ok (.if_icmp .ne 51, 3) := by decide +kernel
theorem dX12_maps_142 : decode cX12_maps 142 = .ok (.iload_n 3, 1) := by decide +kernel
theorem dX12_maps_143 : decode cX12_maps 143 = .ok (.aload_n 0, 1) := by decide +kernel
theorem dX12_maps_144 : decode cX12_maps 144 = .ok (.iload 5, 2) := by decide +kernel
theorem dX12_maps_146 : decode cX12_maps 146 = .ok (.invokevirtual 435, 3) := by decide +kernel
theorem dX12_maps_149 : decode cX12_maps 149 = .ok (.ifCond .lt 35, 3) := by decide +kernel
theorem dX12_maps_152 : decode cX12_maps 152 = .ok (.aload_n 0, 1) := by decide +kernel
theorem dX12_maps_153 : decode cX12_maps 153 = .ok (.iload 5, 2) := by decide +kernel
theorem dX12_maps_155 : decode cX12_maps 155 = .ok (.iconst 1, 1) := by decide +kernel
theorem dX12_maps_156 : decode cX12_maps 156 = .ok (.iadd, 1) := by decide +kernel
theorem dX12_maps_157 : decode cX12_maps 157 = .ok (.invokevirtual 435, 3) := by decide +kernel
theorem dX12_maps_160 : decode cX12_maps 160 = .ok (.ifCond .lt 24, 3) := by decide +kernel
theorem dX12_maps_163 : decode cX12_maps 163 = .ok (.aload_n 0, 1) := by decide +kernel
theorem dX12_maps_164 : decode cX12_maps 164 = .ok (.iload 5, 2) := by decide +kernel
theorem dX12_maps_166 : decode cX12_maps 166 = .ok (.invokevirtual 435, 3) := by decide +kernel
theorem dX12_maps_169 : decode cX12_maps 169 = .ok (.aload_n 0, 1) := by decide +kernel
theorem dX12_maps_170 : decode cX12_maps 170 = .ok (.iload 5, 2) := by decide +kernel
theorem dX12_maps_172 : decode cX12_maps 172 = .ok (.iconst 1, 1) := by decide +kernel
theorem dX12_maps_173 : decode cX12_maps 173 = .ok (.iadd, 1) := by decide +kernel
