theorem tm1 (w : Cond) (h : w ∈ tables_1_1) : w ∈ lw_tbl := List.mem_append_right _ (List.mem_append_left _ h)
theorem tm2 (w : Cond) (h : w ∈ tables_1_2) : w ∈ lw_tbl := List.mem_append_right _ (List.mem_append_right _ (List.mem_append_left _ h))
theorem tm3 (w : Cond) (h : w ∈ tables_1_3) : w ∈ lw_tbl := List.mem_append_right _ (List.mem_append_right _ (List.mem_append_right _ (List.mem_append_left _ h)))
theorem tm4 (w : Cond) (h : w ∈ tables_1_4) : w ∈ lw_tbl := List.mem_append_right _ (List.mem_append_right _ (List.mem_append_right _ (List.mem_append_right _ (List.mem_append_left _ h))))
theorem tm5 (w : Cond) (h : w ∈ tables_1_5) : w ∈ lw_tbl := List.mem_append_right _ (List.mem_append_right _ (List.mem_append_right _ (List.mem_append_right _ (List.mem_append_right _ (List.mem_append_left _ h)))))
theorem tm6 (w : Cond) (h : w ∈ tables_1_6) : w ∈ lw_tbl := List.mem_append_right _ (List.mem_append_right _ (List.mem_append_right _ (List.mem_append_right _ (List.mem_append_right _ (List.mem_append_right _ (List.mem_append_left _ h))))))
theorem tm7 (w : Cond) (h : w ∈ tables_1_7) : w ∈ lw_tbl := List.mem_append_right _ (List.mem_append_right _ (List.mem_append_right _ (List.mem_append_right _ (List.mem_append_right _ (List.mem_append_right _ (List.mem_append_right _ (List.mem_append_left _ h)))))))
theorem tm8 (w : Cond) (h : w ∈ tables_1_8) : w ∈ lw_tbl := List.mem_append_right _ (List.mem_append_right _ (List.mem_append_right _ (List.mem_append_right _ (List.mem_append_right _ (List.mem_append_right _ (List.mem_append_right _ (List.mem_append_right _ (h))))))))
theorem tp1 (w : Cond) (h : w ∈ k2_sels lw_privs_1) : w ∈ lw_tbl := List.mem_append_left _ (by
  obtain ⟨q, hq, rfl⟩ := List.mem_map.mp h
  exact List.mem_map.mpr ⟨q, by simp only [lw_privs, List.mem_append]; simp only [hq, true_or, or_true], rfl⟩)
theorem tp2 (w : Cond) (h : w ∈ k2_sels lw_privs_2) : w ∈ lw_tbl := List.mem_append_left _ (by
  obtain ⟨q, hq, rfl⟩ := List.mem_map.mp h
  exact List.mem_map.mpr ⟨q, by simp only [lw_privs, List.mem_append]; simp only [hq, true_or, or_true], rfl⟩)
theorem tp3 (w : Cond) (h : w ∈ k2_sels lw_privs_3) : w ∈ lw_tbl := List.mem_append_left _ (by
  obtain ⟨q, hq, rfl⟩ := List.mem_map.mp h
  exact List.mem_map.mpr ⟨q, by simp only [lw_privs, List.mem_append]; simp only [hq, true_or, or_true], rfl⟩)
theorem tp4 (w : Cond) (h : w ∈ k2_sels lw_privs_4) : w ∈ lw_tbl := List.mem_append_left _ (by
  obtain ⟨q, hq, rfl⟩ := List.mem_map.mp h
  exact List.mem_map.mpr ⟨q, by simp only [lw_privs, List.mem_append]; simp only [hq, true_or, or_true], rfl⟩)
theorem tp5 (w : Cond) (h : w ∈ k2_sels lw_privs_5) : w ∈ lw_tbl := List.mem_append_left _ (by
  obtain ⟨q, hq, rfl⟩ := List.mem_map.mp h
  exact List.mem_map.mpr ⟨q, by simp only [lw_privs, List.mem_append]; simp only [hq, true_or, or_true], rfl⟩)
theorem tp6 (w : Cond) (h : w ∈ k2_sels lw_privs_6) : w ∈ lw_tbl := List.mem_append_left _ (by
  obtain ⟨q, hq, rfl⟩ := List.mem_map.mp h
  exact List.mem_map.mpr ⟨q, by simp only [lw_privs, List.mem_append]; simp only [hq, true_or, or_true], rfl⟩)
theorem tp7 (w : Cond) (h : w ∈ k2_sels lw_privs_7) : w ∈ lw_tbl := List.mem_append_left _ (by
  obtain ⟨q, hq, rfl⟩ := List.mem_map.mp h
  exact List.mem_map.mpr ⟨q, by simp only [lw_privs, List.mem_append]; simp only [hq, true_or, or_true], rfl⟩)
theorem w1_0 : Cond.initialized RL ∈ gt := gt_in (tm1 _ (List.mem_of_getElem? (i := 0) rfl)) rfl
theorem w1_1 : Cond.initialized RX11 ∈ gt := gt_in (tm1 _ (List.mem_of_getElem? (i := 1) rfl)) rfl
theorem w1_2 : Cond.initialized RX10 ∈ gt := gt_in (tm1 _ (List.mem_of_getElem? (i := 2) rfl)) rfl
theorem w1_7 : Cond.initialized RX5 ∈ gt := gt_in (tm1 _ (List.mem_of_getElem? (i := 7) rfl)) rfl
theorem w1_8 : Cond.initialized RX4 ∈ gt := gt_in (tm1 _ (List.mem_of_getElem? (i := 8) rfl)) rfl
theorem w1_9 : Cond.initialized RX6 ∈ gt := gt_in (tm1 _ (List.mem_of_getElem? (i := 9) rfl)) rfl
theorem w1_10 : Cond.initialized "java/lang/Math" ∈ gt := gt_in (tm1 _ (List.mem_of_getElem? (i := 10) rfl)) rfl
theorem w1_11 : Cond.initialized RX1 ∈ gt := gt_in (tm1 _ (List.mem_of_getElem? (i := 11) rfl)) rfl
theorem w1_12 : Cond.initialized RX7 ∈ gt := gt_in (tm1 _ (List.mem_of_getElem? (i := 12) rfl)) rfl
theorem w1_13 : Cond.initialized RX2 ∈ gt := gt_in (tm1 _ (List.mem_of_getElem? (i := 13) rfl)) rfl
theorem w1_14 : Cond.initialized RX3 ∈ gt := gt_in (tm1 _ (List.mem_of_getElem? (i := 14) rfl)) rfl
theorem w1_15 : Cond.initialized RX9 ∈ gt := gt_in (tm1 _ (List.mem_of_getElem? (i := 15) rfl)) rfl
theorem w1_16 : Cond.initialized RX8 ∈ gt := gt_in (tm1 _ (List.mem_of_getElem? (i := 16) rfl)) rfl
theorem w1_17 : Cond.initialized RX0 ∈ gt := gt_in (tm1 _ (List.mem_of_getElem? (i := 17) rfl)) rfl
theorem w1_18 : Cond.initialized RX12 ∈ gt := gt_in (tm1 _ (List.mem_of_getElem? (i := 18) rfl)) rfl
theorem w1_26 : Cond.methodLink RL 17 yX11_init ∈ gt := gt_in (tm1 _ (List.mem_of_getElem? (i := 26) rfl)) rfl
theorem w1_27 : Cond.instanceMethod yX11_init ∈ gt := gt_in (tm1 _ (List.mem_of_getElem? (i := 27) rfl)) rfl
theorem w1_28 : Cond.code yX11_init cX11_init 1 none ∈ gt := gt_in (tm1 _ (List.mem_of_getElem? (i := 28) rfl)) rfl
theorem w1_34 : Cond.methodLink RX11 15 yX10_init ∈ gt := gt_in (tm1 _ (List.mem_of_getElem? (i := 34) rfl)) rfl
theorem w1_35 : Cond.instanceMethod yX10_init ∈ gt := gt_in (tm1 _ (List.mem_of_getElem? (i := 35) rfl)) rfl
theorem w1_36 : Cond.code yX10_init cX10_init 5 none ∈ gt := gt_in (tm1 _ (List.mem_of_getElem? (i := 36) rfl)) rfl
theorem w1_39 : Cond.methodLink RX10 25 yJ0_length_8abf5 ∈ gt := gt_in (tm1 _ (List.mem_of_getElem? (i := 39) rfl)) rfl
theorem w1_49 : Cond.methodLink RX10 31 yJ0_charAt_5068e ∈ gt := gt_in (tm1 _ (List.mem_of_getElem? (i := 49) rfl)) rfl
theorem w1_87 : Cond.methodLink RX10 35 yX10_joined ∈ gt := gt_in (tm1 _ (List.mem_of_getElem? (i := 87) rfl)) rfl
theorem w1_88 : Cond.static yX10_joined ∈ gt := gt_in (tm1 _ (List.mem_of_getElem? (i := 88) rfl)) rfl
theorem w1_89 : Cond.code yX10_joined cX10_joined 3 (some .long) ∈ gt := gt_in (tm1 _ (List.mem_of_getElem? (i := 89) rfl)) rfl
theorem w1_90 : Cond.constantLong RX10 94 (32 : Int64) ∈ gt := gt_in (tm1 _ (List.mem_of_getElem? (i := 90) rfl)) rfl
theorem w1_91 : Cond.fieldLink RX10 19 RX10 "text" "[I" ∈ gt := gt_in (tm1 _ (List.mem_of_getElem? (i := 91) rfl)) rfl
theorem w1_92 : Cond.fieldLink RX10 9 RX10 "words" "[J" ∈ gt := gt_in (tm1 _ (List.mem_of_getElem? (i := 92) rfl)) rfl
theorem w1_93 : Cond.fieldLink RX10 45 RX10 "length" "I" ∈ gt := gt_in (tm1 _ (List.mem_of_getElem? (i := 93) rfl)) rfl
theorem w1_94 : Cond.fieldLink RX10 47 RX10 "next" "I" ∈ gt := gt_in (tm1 _ (List.mem_of_getElem? (i := 94) rfl)) rfl
theorem w1_95 : Cond.fieldLink RX5 29 RX10 "sort" "I" ∈ gt := gt_in (tm1 _ (List.mem_of_getElem? (i := 95) rfl)) rfl
theorem w1_96 : Cond.fieldLink RX10 59 RX10 "sort" "I" ∈ gt := gt_in (tm1 _ (List.mem_of_getElem? (i := 96) rfl)) rfl
theorem w1_97 : Cond.fieldLink RX7 48 RX10 "sort" "I" ∈ gt := gt_in (tm1 _ (List.mem_of_getElem? (i := 97) rfl)) rfl
theorem w1_98 : Cond.fieldLink RX10 56 RX10 "at" "I" ∈ gt := gt_in (tm1 _ (List.mem_of_getElem? (i := 98) rfl)) rfl
theorem w1_99 : Cond.fieldLink RX10 78 RX10 "value" "I" ∈ gt := gt_in (tm1 _ (List.mem_of_getElem? (i := 99) rfl)) rfl
theorem w1_100 : Cond.fieldLink RX5 50 RX10 "value" "I" ∈ gt := gt_in (tm1 _ (List.mem_of_getElem? (i := 100) rfl)) rfl
theorem w1_101 : Cond.fieldLink RX7 67 RX10 "value" "I" ∈ gt := gt_in (tm1 _ (List.mem_of_getElem? (i := 101) rfl)) rfl
theorem w1_102 : Cond.fieldLink RX5 59 RX10 "letters" "J" ∈ gt := gt_in (tm1 _ (List.mem_of_getElem? (i := 102) rfl)) rfl
theorem w1_103 : Cond.fieldLink RX10 87 RX10 "letters" "J" ∈ gt := gt_in (tm1 _ (List.mem_of_getElem? (i := 103) rfl)) rfl
theorem w1_104 : Cond.fieldLink RX10 50 RX10 "fault" "I" ∈ gt := gt_in (tm1 _ (List.mem_of_getElem? (i := 104) rfl)) rfl
theorem w1_105 : Cond.fieldLink RX11 358 RX10 "fault" "I" ∈ gt := gt_in (tm1 _ (List.mem_of_getElem? (i := 105) rfl)) rfl
theorem w1_106 : Cond.fieldLink RX10 15 RX10 "place" "I" ∈ gt := gt_in (tm1 _ (List.mem_of_getElem? (i := 106) rfl)) rfl
theorem w1_107 : Cond.fieldLink RX11 361 RX10 "place" "I" ∈ gt := gt_in (tm1 _ (List.mem_of_getElem? (i := 107) rfl)) rfl
theorem w1_134 : Cond.methodLink RX11 24 yX5_init ∈ gt := gt_in (tm1 _ (List.mem_of_getElem? (i := 134) rfl)) rfl
theorem w1_135 : Cond.instanceMethod yX5_init ∈ gt := gt_in (tm1 _ (List.mem_of_getElem? (i := 135) rfl)) rfl
theorem w1_136 : Cond.code yX5_init cX5_init 2 none ∈ gt := gt_in (tm1 _ (List.mem_of_getElem? (i := 136) rfl)) rfl
theorem w1_141 : Cond.instanceMethod yX4_init ∈ gt := gt_in (tm1 _ (List.mem_of_getElem? (i := 141) rfl)) rfl
theorem w1_142 : Cond.code yX4_init cX4_init 1 none ∈ gt := gt_in (tm1 _ (List.mem_of_getElem? (i := 142) rfl)) rfl
theorem w1_144 : Cond.fieldLink RX4 11 RX4 "word" "[I" ∈ gt := gt_in (tm1 _ (List.mem_of_getElem? (i := 144) rfl)) rfl
theorem w1_145 : Cond.fieldLink RX4 15 RX4 "sign" "[I" ∈ gt := gt_in (tm1 _ (List.mem_of_getElem? (i := 145) rfl)) rfl
theorem w1_146 : Cond.fieldLink RX4 18 RX4 "number" "[I" ∈ gt := gt_in (tm1 _ (List.mem_of_getElem? (i := 146) rfl)) rfl
theorem w1_147 : Cond.fieldLink RX4 34 RX4 "size" "I" ∈ gt := gt_in (tm1 _ (List.mem_of_getElem? (i := 147) rfl)) rfl
theorem w1_148 : Cond.fieldLink RX4 21 RX4 "lineEnd" "[I" ∈ gt := gt_in (tm1 _ (List.mem_of_getElem? (i := 148) rfl)) rfl
theorem w1_149 : Cond.fieldLink RX4 24 RX4 "kindOfLine" "[I" ∈ gt := gt_in (tm1 _ (List.mem_of_getElem? (i := 149) rfl)) rfl
theorem w1_150 : Cond.fieldLink RX7 38 RX4 "kindOfLine" "[I" ∈ gt := gt_in (tm1 _ (List.mem_of_getElem? (i := 150) rfl)) rfl
theorem w1_151 : Cond.fieldLink RX4 27 RX4 "names" "[J" ∈ gt := gt_in (tm1 _ (List.mem_of_getElem? (i := 151) rfl)) rfl
theorem w1_152 : Cond.fieldLink RX4 31 RX4 "stack" "[I" ∈ gt := gt_in (tm1 _ (List.mem_of_getElem? (i := 152) rfl)) rfl
theorem w1_153 : Cond.fieldLink RX4 38 RX4 "lines" "I" ∈ gt := gt_in (tm1 _ (List.mem_of_getElem? (i := 153) rfl)) rfl
theorem w1_154 : Cond.fieldLink RX11 135 RX4 "lines" "I" ∈ gt := gt_in (tm1 _ (List.mem_of_getElem? (i := 154) rfl)) rfl
theorem w1_155 : Cond.fieldLink RX5 56 RX4 "lines" "I" ∈ gt := gt_in (tm1 _ (List.mem_of_getElem? (i := 155) rfl)) rfl
theorem w1_156 : Cond.fieldLink RX4 41 RX4 "kinds" "I" ∈ gt := gt_in (tm1 _ (List.mem_of_getElem? (i := 156) rfl)) rfl
theorem w1_157 : Cond.fieldLink RX11 125 RX4 "kinds" "I" ∈ gt := gt_in (tm1 _ (List.mem_of_getElem? (i := 157) rfl)) rfl
theorem w1_158 : Cond.fieldLink RX4 44 RX4 "knots" "I" ∈ gt := gt_in (tm1 _ (List.mem_of_getElem? (i := 158) rfl)) rfl
theorem w1_159 : Cond.fieldLink RX5 106 RX4 "knots" "I" ∈ gt := gt_in (tm1 _ (List.mem_of_getElem? (i := 159) rfl)) rfl
theorem w1_160 : Cond.fieldLink RX11 355 RX4 "knots" "I" ∈ gt := gt_in (tm1 _ (List.mem_of_getElem? (i := 160) rfl)) rfl
theorem w1_184 : Cond.fieldLink RX5 18 RX5 "scanner" "LClodDesk$Scanner;" ∈ gt := gt_in (tm1 _ (List.mem_of_getElem? (i := 184) rfl)) rfl
theorem w1_185 : Cond.fieldLink RX5 12 RX5 "key" "LClodDesk$Key;" ∈ gt := gt_in (tm1 _ (List.mem_of_getElem? (i := 185) rfl)) rfl
theorem w1_186 : Cond.fieldLink RX5 25 RX5 "open" "I" ∈ gt := gt_in (tm1 _ (List.mem_of_getElem? (i := 186) rfl)) rfl
theorem w1_198 : Cond.methodLink RX11 44 yX6_init ∈ gt := gt_in (tm1 _ (List.mem_of_getElem? (i := 198) rfl)) rfl
theorem w1_199 : Cond.instanceMethod yX6_init ∈ gt := gt_in (tm1 _ (List.mem_of_getElem? (i := 199) rfl)) rfl
theorem w1_200 : Cond.code yX6_init cX6_init 1 none ∈ gt := gt_in (tm1 _ (List.mem_of_getElem? (i := 200) rfl)) rfl
theorem w1_204 : Cond.methodLink RX6 45 yX6_renew ∈ gt := gt_in (tm1 _ (List.mem_of_getElem? (i := 204) rfl)) rfl
theorem w1_205 : Cond.instanceMethod yX6_renew ∈ gt := gt_in (tm1 _ (List.mem_of_getElem? (i := 205) rfl)) rfl
theorem w1_206 : Cond.selects RX6 yX6_renew yX6_renew ∈ gt := gt_in (tm1 _ (List.mem_of_getElem? (i := 206) rfl)) rfl
theorem w1_207 : Cond.code yX6_renew cX6_renew 5 none ∈ gt := gt_in (tm1 _ (List.mem_of_getElem? (i := 207) rfl)) rfl
theorem w1_208 : Cond.fieldLink RX6 58 RX6 "AT_FIRST" "[I" ∈ gt := gt_in (tm1 _ (List.mem_of_getElem? (i := 208) rfl)) rfl
theorem w1_210 : Cond.methodLink RX6 61 yX6_reckon ∈ gt := gt_in (tm1 _ (List.mem_of_getElem? (i := 210) rfl)) rfl
theorem w1_212 : Cond.instanceMethod yX6_reckon ∈ gt := gt_in (tm1 _ (List.mem_of_getElem? (i := 212) rfl)) rfl
theorem w1_213 : Cond.code yX6_reckon cX6_reckon 2 none ∈ gt := gt_in (tm1 _ (List.mem_of_getElem? (i := 213) rfl)) rfl
theorem w1_214 : Cond.methodLink RX6 83 yX6_slopeOf ∈ gt := gt_in (tm1 _ (List.mem_of_getElem? (i := 214) rfl)) rfl
theorem w1_216 : Cond.instanceMethod yX6_slopeOf ∈ gt := gt_in (tm1 _ (List.mem_of_getElem? (i := 216) rfl)) rfl
theorem w1_217 : Cond.code yX6_slopeOf cX6_slopeOf 3 (some .int) ∈ gt := gt_in (tm1 _ (List.mem_of_getElem? (i := 217) rfl)) rfl
theorem w1_218 : Cond.methodLink RX6 90 yX6_heightGap ∈ gt := gt_in (tm1 _ (List.mem_of_getElem? (i := 218) rfl)) rfl
theorem w1_219 : Cond.instanceMethod yX6_heightGap ∈ gt := gt_in (tm1 _ (List.mem_of_getElem? (i := 219) rfl)) rfl
theorem w1_220 : Cond.selects RX6 yX6_heightGap yX6_heightGap ∈ gt := gt_in (tm1 _ (List.mem_of_getElem? (i := 220) rfl)) rfl
theorem w1_221 : Cond.code yX6_heightGap cX6_heightGap 3 (some .int) ∈ gt := gt_in (tm1 _ (List.mem_of_getElem? (i := 221) rfl)) rfl
theorem w1_222 : Cond.methodLink RX6 70 Lib.Math.abs.name ∈ gt := gt_in (tm1 _ (List.mem_of_getElem? (i := 222) rfl)) rfl
theorem w1_223 : Cond.static Lib.Math.abs.name ∈ gt := gt_in (tm1 _ (List.mem_of_getElem? (i := 223) rfl)) rfl
theorem w1_224 : Cond.code Lib.Math.abs.name Lib.Math.abs.code 1 (some .int) ∈ gt := gt_in (tm1 _ (List.mem_of_getElem? (i := 224) rfl)) rfl
theorem w1_225 : Cond.methodLink RX6 76 Lib.Math.max.name ∈ gt := gt_in (tm1 _ (List.mem_of_getElem? (i := 225) rfl)) rfl
theorem w1_226 : Cond.static Lib.Math.max.name ∈ gt := gt_in (tm1 _ (List.mem_of_getElem? (i := 226) rfl)) rfl
theorem w1_227 : Cond.code Lib.Math.max.name Lib.Math.max.code 2 (some .int) ∈ gt := gt_in (tm1 _ (List.mem_of_getElem? (i := 227) rfl)) rfl
theorem w1_228 : Cond.methodLink RX6 86 yX6_stepOf ∈ gt := gt_in (tm1 _ (List.mem_of_getElem? (i := 228) rfl)) rfl
theorem w1_229 : Cond.static yX6_stepOf ∈ gt := gt_in (tm1 _ (List.mem_of_getElem? (i := 229) rfl)) rfl
theorem w1_230 : Cond.code yX6_stepOf cX6_stepOf 3 (some .int) ∈ gt := gt_in (tm1 _ (List.mem_of_getElem? (i := 230) rfl)) rfl
theorem w1_231 : Cond.fieldLink RX6 49 RX6 "w" "I" ∈ gt := gt_in (tm1 _ (List.mem_of_getElem? (i := 231) rfl)) rfl
theorem w1_232 : Cond.fieldLink RX3 38 RX6 "w" "I" ∈ gt := gt_in (tm1 _ (List.mem_of_getElem? (i := 232) rfl)) rfl
theorem w1_233 : Cond.fieldLink RX8 74 RX6 "w" "I" ∈ gt := gt_in (tm1 _ (List.mem_of_getElem? (i := 233) rfl)) rfl
theorem w1_234 : Cond.fieldLink RX11 282 RX6 "w" "I" ∈ gt := gt_in (tm1 _ (List.mem_of_getElem? (i := 234) rfl)) rfl
theorem w1_235 : Cond.fieldLink RX6 52 RX6 "h" "I" ∈ gt := gt_in (tm1 _ (List.mem_of_getElem? (i := 235) rfl)) rfl
theorem w1_236 : Cond.fieldLink RX3 43 RX6 "h" "I" ∈ gt := gt_in (tm1 _ (List.mem_of_getElem? (i := 236) rfl)) rfl
theorem w1_237 : Cond.fieldLink RX8 71 RX6 "h" "I" ∈ gt := gt_in (tm1 _ (List.mem_of_getElem? (i := 237) rfl)) rfl
theorem w1_238 : Cond.fieldLink RX11 285 RX6 "h" "I" ∈ gt := gt_in (tm1 _ (List.mem_of_getElem? (i := 238) rfl)) rfl
theorem w1_239 : Cond.fieldLink RX9 35 RX6 "cells" "I" ∈ gt := gt_in (tm1 _ (List.mem_of_getElem? (i := 239) rfl)) rfl
theorem w2_0 : Cond.fieldLink RX6 55 RX6 "cells" "I" ∈ gt := gt_in (tm2 _ (List.mem_of_getElem? (i := 0) rfl)) rfl
theorem w2_1 : Cond.fieldLink RX8 62 RX6 "cells" "I" ∈ gt := gt_in (tm2 _ (List.mem_of_getElem? (i := 1) rfl)) rfl
theorem w2_2 : Cond.fieldLink RX11 328 RX6 "cells" "I" ∈ gt := gt_in (tm2 _ (List.mem_of_getElem? (i := 2) rfl)) rfl
theorem w2_3 : Cond.fieldLink RX6 13 RX6 "rows" "[[I" ∈ gt := gt_in (tm2 _ (List.mem_of_getElem? (i := 3) rfl)) rfl
theorem w2_4 : Cond.fieldLink RX9 49 RX6 "rows" "[[I" ∈ gt := gt_in (tm2 _ (List.mem_of_getElem? (i := 4) rfl)) rfl
theorem w2_5 : Cond.fieldLink RX8 45 RX6 "rows" "[[I" ∈ gt := gt_in (tm2 _ (List.mem_of_getElem? (i := 5) rfl)) rfl
theorem w2_6 : Cond.fieldLink RX11 240 RX6 "rows" "[[I" ∈ gt := gt_in (tm2 _ (List.mem_of_getElem? (i := 6) rfl)) rfl
theorem w2_7 : Cond.fieldLink RX6 16 RX6 "x" "[I" ∈ gt := gt_in (tm2 _ (List.mem_of_getElem? (i := 7) rfl)) rfl
theorem w2_8 : Cond.fieldLink RX6 20 RX6 "y" "[I" ∈ gt := gt_in (tm2 _ (List.mem_of_getElem? (i := 8) rfl)) rfl
theorem w2_9 : Cond.fieldLink RX6 23 RX6 "slope" "[I" ∈ gt := gt_in (tm2 _ (List.mem_of_getElem? (i := 9) rfl)) rfl
theorem w2_10 : Cond.fieldLink RX11 231 RX6 "slope" "[I" ∈ gt := gt_in (tm2 _ (List.mem_of_getElem? (i := 10) rfl)) rfl
theorem w2_11 : Cond.fieldLink RX6 26 RX6 "steep" "[I" ∈ gt := gt_in (tm2 _ (List.mem_of_getElem? (i := 11) rfl)) rfl
theorem w2_12 : Cond.fieldLink RX11 234 RX6 "steep" "[I" ∈ gt := gt_in (tm2 _ (List.mem_of_getElem? (i := 12) rfl)) rfl
theorem w2_13 : Cond.fieldLink RX6 29 RX6 "feel" "[I" ∈ gt := gt_in (tm2 _ (List.mem_of_getElem? (i := 13) rfl)) rfl
theorem w2_14 : Cond.fieldLink RX11 237 RX6 "feel" "[I" ∈ gt := gt_in (tm2 _ (List.mem_of_getElem? (i := 14) rfl)) rfl
theorem w2_15 : Cond.fieldLink RX6 32 RX6 "steepLow" "I" ∈ gt := gt_in (tm2 _ (List.mem_of_getElem? (i := 15) rfl)) rfl
theorem w2_16 : Cond.fieldLink RX3 53 RX6 "steepLow" "I" ∈ gt := gt_in (tm2 _ (List.mem_of_getElem? (i := 16) rfl)) rfl
theorem w2_17 : Cond.fieldLink RX6 36 RX6 "steepHigh" "I" ∈ gt := gt_in (tm2 _ (List.mem_of_getElem? (i := 17) rfl)) rfl
theorem w2_18 : Cond.fieldLink RX6 39 RX6 "feelLow" "I" ∈ gt := gt_in (tm2 _ (List.mem_of_getElem? (i := 18) rfl)) rfl
theorem w2_19 : Cond.fieldLink RX6 42 RX6 "feelHigh" "I" ∈ gt := gt_in (tm2 _ (List.mem_of_getElem? (i := 19) rfl)) rfl
theorem w2_49 : Cond.methodLink RX11 51 yX1_init ∈ gt := gt_in (tm2 _ (List.mem_of_getElem? (i := 49) rfl)) rfl
theorem w2_50 : Cond.instanceMethod yX1_init ∈ gt := gt_in (tm2 _ (List.mem_of_getElem? (i := 50) rfl)) rfl
theorem w2_51 : Cond.code yX1_init cX1_init 2 none ∈ gt := gt_in (tm2 _ (List.mem_of_getElem? (i := 51) rfl)) rfl
theorem w2_57 : Cond.instanceMethod yX7_init ∈ gt := gt_in (tm2 _ (List.mem_of_getElem? (i := 57) rfl)) rfl
theorem w2_58 : Cond.code yX7_init cX7_init 1 none ∈ gt := gt_in (tm2 _ (List.mem_of_getElem? (i := 58) rfl)) rfl
theorem w2_60 : Cond.fieldLink RX7 9 RX7 "target" "I" ∈ gt := gt_in (tm2 _ (List.mem_of_getElem? (i := 60) rfl)) rfl
theorem w2_61 : Cond.fieldLink RX1 34 RX7 "target" "I" ∈ gt := gt_in (tm2 _ (List.mem_of_getElem? (i := 61) rfl)) rfl
theorem w2_62 : Cond.fieldLink RX11 158 RX7 "target" "I" ∈ gt := gt_in (tm2 _ (List.mem_of_getElem? (i := 62) rfl)) rfl
theorem w2_63 : Cond.fieldLink RX0 67 RX7 "hand" "I" ∈ gt := gt_in (tm2 _ (List.mem_of_getElem? (i := 63) rfl)) rfl
theorem w2_64 : Cond.fieldLink RX11 161 RX7 "hand" "I" ∈ gt := gt_in (tm2 _ (List.mem_of_getElem? (i := 64) rfl)) rfl
theorem w2_65 : Cond.fieldLink RX2 74 RX7 "hand" "I" ∈ gt := gt_in (tm2 _ (List.mem_of_getElem? (i := 65) rfl)) rfl
theorem w2_66 : Cond.fieldLink RX9 65 RX7 "cell" "I" ∈ gt := gt_in (tm2 _ (List.mem_of_getElem? (i := 66) rfl)) rfl
theorem w2_67 : Cond.fieldLink RX8 50 RX7 "cell" "I" ∈ gt := gt_in (tm2 _ (List.mem_of_getElem? (i := 67) rfl)) rfl
theorem w2_68 : Cond.fieldLink RX0 72 RX7 "cell" "I" ∈ gt := gt_in (tm2 _ (List.mem_of_getElem? (i := 68) rfl)) rfl
theorem w2_69 : Cond.fieldLink RX11 164 RX7 "cell" "I" ∈ gt := gt_in (tm2 _ (List.mem_of_getElem? (i := 69) rfl)) rfl
theorem w2_70 : Cond.fieldLink RX2 63 RX7 "cell" "I" ∈ gt := gt_in (tm2 _ (List.mem_of_getElem? (i := 70) rfl)) rfl
theorem w2_71 : Cond.fieldLink RX7 25 RX7 "layers" "I" ∈ gt := gt_in (tm2 _ (List.mem_of_getElem? (i := 71) rfl)) rfl
theorem w2_72 : Cond.fieldLink RX4 72 RX7 "layers" "I" ∈ gt := gt_in (tm2 _ (List.mem_of_getElem? (i := 72) rfl)) rfl
theorem w2_73 : Cond.fieldLink RX11 206 RX7 "layers" "I" ∈ gt := gt_in (tm2 _ (List.mem_of_getElem? (i := 73) rfl)) rfl
theorem w2_74 : Cond.fieldLink RX7 15 RX7 "line" "I" ∈ gt := gt_in (tm2 _ (List.mem_of_getElem? (i := 74) rfl)) rfl
theorem w2_75 : Cond.fieldLink RX11 216 RX7 "line" "I" ∈ gt := gt_in (tm2 _ (List.mem_of_getElem? (i := 75) rfl)) rfl
theorem w2_76 : Cond.fieldLink RX7 18 RX7 "kind" "I" ∈ gt := gt_in (tm2 _ (List.mem_of_getElem? (i := 76) rfl)) rfl
theorem w2_77 : Cond.fieldLink RX8 55 RX7 "kind" "I" ∈ gt := gt_in (tm2 _ (List.mem_of_getElem? (i := 77) rfl)) rfl
theorem w2_78 : Cond.fieldLink RX0 75 RX7 "kind" "I" ∈ gt := gt_in (tm2 _ (List.mem_of_getElem? (i := 78) rfl)) rfl
theorem w2_79 : Cond.fieldLink RX1 48 RX7 "kind" "I" ∈ gt := gt_in (tm2 _ (List.mem_of_getElem? (i := 79) rfl)) rfl
theorem w2_80 : Cond.fieldLink RX2 77 RX7 "kind" "I" ∈ gt := gt_in (tm2 _ (List.mem_of_getElem? (i := 80) rfl)) rfl
theorem w2_81 : Cond.fieldLink RX11 213 RX7 "kind" "I" ∈ gt := gt_in (tm2 _ (List.mem_of_getElem? (i := 81) rfl)) rfl
theorem w2_82 : Cond.fieldLink RX7 21 RX7 "fields" "[I" ∈ gt := gt_in (tm2 _ (List.mem_of_getElem? (i := 82) rfl)) rfl
theorem w2_99 : Cond.fieldLink RX1 11 RX1 "notes" "[LClodDesk$Note;" ∈ gt := gt_in (tm2 _ (List.mem_of_getElem? (i := 99) rfl)) rfl
theorem w2_100 : Cond.fieldLink RX8 38 RX1 "notes" "[LClodDesk$Note;" ∈ gt := gt_in (tm2 _ (List.mem_of_getElem? (i := 100) rfl)) rfl
theorem w2_101 : Cond.fieldLink RX9 58 RX1 "notes" "[LClodDesk$Note;" ∈ gt := gt_in (tm2 _ (List.mem_of_getElem? (i := 101) rfl)) rfl
theorem w2_102 : Cond.fieldLink RX0 60 RX1 "notes" "[LClodDesk$Note;" ∈ gt := gt_in (tm2 _ (List.mem_of_getElem? (i := 102) rfl)) rfl
theorem w2_103 : Cond.fieldLink RX11 148 RX1 "notes" "[LClodDesk$Note;" ∈ gt := gt_in (tm2 _ (List.mem_of_getElem? (i := 103) rfl)) rfl
theorem w2_104 : Cond.fieldLink RX2 42 RX1 "notes" "[LClodDesk$Note;" ∈ gt := gt_in (tm2 _ (List.mem_of_getElem? (i := 104) rfl)) rfl
theorem w2_105 : Cond.fieldLink RX1 26 RX1 "size" "I" ∈ gt := gt_in (tm2 _ (List.mem_of_getElem? (i := 105) rfl)) rfl
theorem w2_106 : Cond.fieldLink RX11 145 RX1 "size" "I" ∈ gt := gt_in (tm2 _ (List.mem_of_getElem? (i := 106) rfl)) rfl
theorem w2_107 : Cond.fieldLink RX1 17 RX1 "counting" "[I" ∈ gt := gt_in (tm2 _ (List.mem_of_getElem? (i := 107) rfl)) rfl
theorem w2_108 : Cond.fieldLink RX8 42 RX1 "counting" "[I" ∈ gt := gt_in (tm2 _ (List.mem_of_getElem? (i := 108) rfl)) rfl
theorem w2_109 : Cond.fieldLink RX9 62 RX1 "counting" "[I" ∈ gt := gt_in (tm2 _ (List.mem_of_getElem? (i := 109) rfl)) rfl
theorem w2_110 : Cond.fieldLink RX0 64 RX1 "counting" "[I" ∈ gt := gt_in (tm2 _ (List.mem_of_getElem? (i := 110) rfl)) rfl
theorem w2_111 : Cond.fieldLink RX2 46 RX1 "counting" "[I" ∈ gt := gt_in (tm2 _ (List.mem_of_getElem? (i := 111) rfl)) rfl
theorem w2_112 : Cond.fieldLink RX11 364 RX1 "counting" "[I" ∈ gt := gt_in (tm2 _ (List.mem_of_getElem? (i := 112) rfl)) rfl
theorem w2_113 : Cond.fieldLink RX8 32 RX1 "counted" "I" ∈ gt := gt_in (tm2 _ (List.mem_of_getElem? (i := 113) rfl)) rfl
theorem w2_114 : Cond.fieldLink RX9 53 RX1 "counted" "I" ∈ gt := gt_in (tm2 _ (List.mem_of_getElem? (i := 114) rfl)) rfl
theorem w2_115 : Cond.fieldLink RX0 55 RX1 "counted" "I" ∈ gt := gt_in (tm2 _ (List.mem_of_getElem? (i := 115) rfl)) rfl
theorem w2_116 : Cond.fieldLink RX2 37 RX1 "counted" "I" ∈ gt := gt_in (tm2 _ (List.mem_of_getElem? (i := 116) rfl)) rfl
theorem w2_117 : Cond.fieldLink RX1 45 RX1 "counted" "I" ∈ gt := gt_in (tm2 _ (List.mem_of_getElem? (i := 117) rfl)) rfl
theorem w2_118 : Cond.fieldLink RX11 273 RX1 "counted" "I" ∈ gt := gt_in (tm2 _ (List.mem_of_getElem? (i := 118) rfl)) rfl
theorem w2_119 : Cond.fieldLink RX1 21 RX1 "struck" "[Z" ∈ gt := gt_in (tm2 _ (List.mem_of_getElem? (i := 119) rfl)) rfl
theorem w2_133 : Cond.methodLink RX11 58 yX2_init ∈ gt := gt_in (tm2 _ (List.mem_of_getElem? (i := 133) rfl)) rfl
theorem w2_134 : Cond.instanceMethod yX2_init ∈ gt := gt_in (tm2 _ (List.mem_of_getElem? (i := 134) rfl)) rfl
theorem w2_135 : Cond.code yX2_init cX2_init 3 none ∈ gt := gt_in (tm2 _ (List.mem_of_getElem? (i := 135) rfl)) rfl
theorem w2_137 : Cond.fieldLink RX2 21 RX2 "land" "LClodDesk$Land;" ∈ gt := gt_in (tm2 _ (List.mem_of_getElem? (i := 137) rfl)) rfl
theorem w2_138 : Cond.fieldLink RX2 25 RX2 "book" "LClodDesk$Book;" ∈ gt := gt_in (tm2 _ (List.mem_of_getElem? (i := 138) rfl)) rfl
theorem w2_139 : Cond.fieldLink RX2 9 RX2 "readings" "[I" ∈ gt := gt_in (tm2 _ (List.mem_of_getElem? (i := 139) rfl)) rfl
theorem w2_140 : Cond.fieldLink RX2 15 RX2 "row" "[I" ∈ gt := gt_in (tm2 _ (List.mem_of_getElem? (i := 140) rfl)) rfl
theorem w2_141 : Cond.fieldLink RX2 29 RX2 "kinds" "I" ∈ gt := gt_in (tm2 _ (List.mem_of_getElem? (i := 141) rfl)) rfl
theorem w2_143 : Cond.fieldLink RX2 18 RX2 "weight" "[I" ∈ gt := gt_in (tm2 _ (List.mem_of_getElem? (i := 143) rfl)) rfl
theorem w2_144 : Cond.fieldLink RX11 256 RX2 "weight" "[I" ∈ gt := gt_in (tm2 _ (List.mem_of_getElem? (i := 144) rfl)) rfl
theorem w2_145 : Cond.fieldLink RX2 53 RX2 "total" "I" ∈ gt := gt_in (tm2 _ (List.mem_of_getElem? (i := 145) rfl)) rfl
theorem w2_146 : Cond.fieldLink RX11 270 RX2 "total" "I" ∈ gt := gt_in (tm2 _ (List.mem_of_getElem? (i := 146) rfl)) rfl
theorem w2_147 : Cond.fieldLink RX2 56 RX2 "best" "I" ∈ gt := gt_in (tm2 _ (List.mem_of_getElem? (i := 147) rfl)) rfl
theorem w2_148 : Cond.fieldLink RX8 83 RX2 "best" "I" ∈ gt := gt_in (tm2 _ (List.mem_of_getElem? (i := 148) rfl)) rfl
theorem w2_149 : Cond.fieldLink RX11 263 RX2 "best" "I" ∈ gt := gt_in (tm2 _ (List.mem_of_getElem? (i := 149) rfl)) rfl
theorem w2_169 : Cond.methodLink RX11 67 yX3_init ∈ gt := gt_in (tm2 _ (List.mem_of_getElem? (i := 169) rfl)) rfl
theorem w2_170 : Cond.instanceMethod yX3_init ∈ gt := gt_in (tm2 _ (List.mem_of_getElem? (i := 170) rfl)) rfl
theorem w2_171 : Cond.code yX3_init cX3_init 3 none ∈ gt := gt_in (tm2 _ (List.mem_of_getElem? (i := 171) rfl)) rfl
theorem w2_174 : Cond.fieldLink RX3 30 RX3 "land" "LClodDesk$Land;" ∈ gt := gt_in (tm2 _ (List.mem_of_getElem? (i := 174) rfl)) rfl
theorem w2_175 : Cond.fieldLink RX3 34 RX3 "chances" "LClodDesk$Chances;" ∈ gt := gt_in (tm2 _ (List.mem_of_getElem? (i := 175) rfl)) rfl
theorem w2_176 : Cond.fieldLink RX3 9 RX3 "border" "I" ∈ gt := gt_in (tm2 _ (List.mem_of_getElem? (i := 176) rfl)) rfl
theorem w2_177 : Cond.fieldLink RX11 187 RX3 "border" "I" ∈ gt := gt_in (tm2 _ (List.mem_of_getElem? (i := 177) rfl)) rfl
theorem w2_178 : Cond.fieldLink RX3 15 RX3 "bend" "I" ∈ gt := gt_in (tm2 _ (List.mem_of_getElem? (i := 178) rfl)) rfl
theorem w2_179 : Cond.fieldLink RX11 190 RX3 "bend" "I" ∈ gt := gt_in (tm2 _ (List.mem_of_getElem? (i := 179) rfl)) rfl
theorem w2_180 : Cond.fieldLink RX3 20 RX3 "cost" "[[I" ∈ gt := gt_in (tm2 _ (List.mem_of_getElem? (i := 180) rfl)) rfl
theorem w2_181 : Cond.fieldLink RX3 23 RX3 "change" "[I" ∈ gt := gt_in (tm2 _ (List.mem_of_getElem? (i := 181) rfl)) rfl
theorem w2_182 : Cond.fieldLink RX3 27 RX3 "line" "[I" ∈ gt := gt_in (tm2 _ (List.mem_of_getElem? (i := 182) rfl)) rfl
theorem w2_183 : Cond.fieldLink RX11 293 RX3 "line" "[I" ∈ gt := gt_in (tm2 _ (List.mem_of_getElem? (i := 183) rfl)) rfl
theorem w2_184 : Cond.fieldLink RX3 46 RX3 "size" "I" ∈ gt := gt_in (tm2 _ (List.mem_of_getElem? (i := 184) rfl)) rfl
theorem w2_185 : Cond.fieldLink RX11 292 RX3 "size" "I" ∈ gt := gt_in (tm2 _ (List.mem_of_getElem? (i := 185) rfl)) rfl
theorem w2_205 : Cond.methodLink RX11 76 yX9_init ∈ gt := gt_in (tm2 _ (List.mem_of_getElem? (i := 205) rfl)) rfl
theorem w2_206 : Cond.instanceMethod yX9_init ∈ gt := gt_in (tm2 _ (List.mem_of_getElem? (i := 206) rfl)) rfl
theorem w2_207 : Cond.code yX9_init cX9_init 2 none ∈ gt := gt_in (tm2 _ (List.mem_of_getElem? (i := 207) rfl)) rfl
theorem w2_209 : Cond.fieldLink RX9 28 RX9 "land" "LClodDesk$Land;" ∈ gt := gt_in (tm2 _ (List.mem_of_getElem? (i := 209) rfl)) rfl
theorem w2_210 : Cond.fieldLink RX9 9 RX9 "gain" "[I" ∈ gt := gt_in (tm2 _ (List.mem_of_getElem? (i := 210) rfl)) rfl
theorem w2_211 : Cond.fieldLink RX9 32 RX9 "topGain" "I" ∈ gt := gt_in (tm2 _ (List.mem_of_getElem? (i := 211) rfl)) rfl
theorem w2_212 : Cond.fieldLink RX9 76 RX9 "wanted" "I" ∈ gt := gt_in (tm2 _ (List.mem_of_getElem? (i := 212) rfl)) rfl
theorem w2_213 : Cond.fieldLink RX9 79 RX9 "limit" "I" ∈ gt := gt_in (tm2 _ (List.mem_of_getElem? (i := 213) rfl)) rfl
theorem w2_214 : Cond.fieldLink RX9 15 RX9 "path" "[I" ∈ gt := gt_in (tm2 _ (List.mem_of_getElem? (i := 214) rfl)) rfl
theorem w2_215 : Cond.fieldLink RX9 18 RX9 "found" "[I" ∈ gt := gt_in (tm2 _ (List.mem_of_getElem? (i := 215) rfl)) rfl
theorem w2_216 : Cond.fieldLink RX9 82 RX9 "foundSum" "I" ∈ gt := gt_in (tm2 _ (List.mem_of_getElem? (i := 216) rfl)) rfl
theorem w2_217 : Cond.fieldLink RX9 85 RX9 "foundDays" "I" ∈ gt := gt_in (tm2 _ (List.mem_of_getElem? (i := 217) rfl)) rfl
theorem w2_218 : Cond.fieldLink RX9 21 RX9 "cells" "[I" ∈ gt := gt_in (tm2 _ (List.mem_of_getElem? (i := 218) rfl)) rfl
theorem w2_219 : Cond.fieldLink RX11 307 RX9 "cells" "[I" ∈ gt := gt_in (tm2 _ (List.mem_of_getElem? (i := 219) rfl)) rfl
theorem w2_220 : Cond.fieldLink RX9 92 RX9 "size" "I" ∈ gt := gt_in (tm2 _ (List.mem_of_getElem? (i := 220) rfl)) rfl
theorem w2_221 : Cond.fieldLink RX11 306 RX9 "size" "I" ∈ gt := gt_in (tm2 _ (List.mem_of_getElem? (i := 221) rfl)) rfl
theorem w2_222 : Cond.fieldLink RX9 24 RX9 "days" "I" ∈ gt := gt_in (tm2 _ (List.mem_of_getElem? (i := 222) rfl)) rfl
theorem w2_223 : Cond.fieldLink RX11 303 RX9 "days" "I" ∈ gt := gt_in (tm2 _ (List.mem_of_getElem? (i := 223) rfl)) rfl
theorem w3_11 : Cond.methodLink RX11 85 yX8_init ∈ gt := gt_in (tm3 _ (List.mem_of_getElem? (i := 11) rfl)) rfl
theorem w3_12 : Cond.instanceMethod yX8_init ∈ gt := gt_in (tm3 _ (List.mem_of_getElem? (i := 12) rfl)) rfl
theorem w3_13 : Cond.code yX8_init cX8_init 4 none ∈ gt := gt_in (tm3 _ (List.mem_of_getElem? (i := 13) rfl)) rfl
theorem w3_16 : Cond.fieldLink RX8 20 RX8 "land" "LClodDesk$Land;" ∈ gt := gt_in (tm3 _ (List.mem_of_getElem? (i := 16) rfl)) rfl
theorem w3_17 : Cond.fieldLink RX8 24 RX8 "book" "LClodDesk$Book;" ∈ gt := gt_in (tm3 _ (List.mem_of_getElem? (i := 17) rfl)) rfl
theorem w3_18 : Cond.fieldLink RX8 28 RX8 "chances" "LClodDesk$Chances;" ∈ gt := gt_in (tm3 _ (List.mem_of_getElem? (i := 18) rfl)) rfl
theorem w3_19 : Cond.fieldLink RX8 11 RX8 "tally" "[[I" ∈ gt := gt_in (tm3 _ (List.mem_of_getElem? (i := 19) rfl)) rfl
theorem w3_20 : Cond.fieldLink RX11 316 RX8 "tally" "[[I" ∈ gt := gt_in (tm3 _ (List.mem_of_getElem? (i := 20) rfl)) rfl
theorem w3_21 : Cond.fieldLink RX8 16 RX8 "turnedTo" "[I" ∈ gt := gt_in (tm3 _ (List.mem_of_getElem? (i := 21) rfl)) rfl
theorem w3_22 : Cond.fieldLink RX11 313 RX8 "turnedTo" "[I" ∈ gt := gt_in (tm3 _ (List.mem_of_getElem? (i := 22) rfl)) rfl
theorem w3_36 : Cond.methodLink RX11 94 yX0_init ∈ gt := gt_in (tm3 _ (List.mem_of_getElem? (i := 36) rfl)) rfl
theorem w3_37 : Cond.instanceMethod yX0_init ∈ gt := gt_in (tm3 _ (List.mem_of_getElem? (i := 37) rfl)) rfl
theorem w3_38 : Cond.code yX0_init cX0_init 2 none ∈ gt := gt_in (tm3 _ (List.mem_of_getElem? (i := 38) rfl)) rfl
theorem w3_40 : Cond.fieldLink RX0 24 RX0 "book" "LClodDesk$Book;" ∈ gt := gt_in (tm3 _ (List.mem_of_getElem? (i := 40) rfl)) rfl
theorem w3_41 : Cond.fieldLink RX0 9 RX0 "kindByOne" "[I" ∈ gt := gt_in (tm3 _ (List.mem_of_getElem? (i := 41) rfl)) rfl
theorem w3_42 : Cond.fieldLink RX0 15 RX0 "kindByOther" "[I" ∈ gt := gt_in (tm3 _ (List.mem_of_getElem? (i := 42) rfl)) rfl
theorem w3_43 : Cond.fieldLink RX0 18 RX0 "toldByOne" "[I" ∈ gt := gt_in (tm3 _ (List.mem_of_getElem? (i := 43) rfl)) rfl
theorem w3_44 : Cond.fieldLink RX0 21 RX0 "toldByOther" "[I" ∈ gt := gt_in (tm3 _ (List.mem_of_getElem? (i := 44) rfl)) rfl
theorem w3_45 : Cond.fieldLink RX0 42 RX0 "many" "I" ∈ gt := gt_in (tm3 _ (List.mem_of_getElem? (i := 45) rfl)) rfl
theorem w3_46 : Cond.fieldLink RX11 340 RX0 "many" "I" ∈ gt := gt_in (tm3 _ (List.mem_of_getElem? (i := 46) rfl)) rfl
theorem w3_47 : Cond.fieldLink RX0 39 RX0 "same" "I" ∈ gt := gt_in (tm3 _ (List.mem_of_getElem? (i := 47) rfl)) rfl
theorem w3_48 : Cond.fieldLink RX11 343 RX0 "same" "I" ∈ gt := gt_in (tm3 _ (List.mem_of_getElem? (i := 48) rfl)) rfl
theorem w3_49 : Cond.fieldLink RX0 35 RX0 "byChance" "I" ∈ gt := gt_in (tm3 _ (List.mem_of_getElem? (i := 49) rfl)) rfl
theorem w3_50 : Cond.fieldLink RX11 346 RX0 "byChance" "I" ∈ gt := gt_in (tm3 _ (List.mem_of_getElem? (i := 50) rfl)) rfl
theorem w3_51 : Cond.fieldLink RX0 49 RX0 "upper" "I" ∈ gt := gt_in (tm3 _ (List.mem_of_getElem? (i := 51) rfl)) rfl
theorem w3_52 : Cond.fieldLink RX11 349 RX0 "upper" "I" ∈ gt := gt_in (tm3 _ (List.mem_of_getElem? (i := 52) rfl)) rfl
theorem w3_53 : Cond.fieldLink RX0 52 RX0 "lower" "I" ∈ gt := gt_in (tm3 _ (List.mem_of_getElem? (i := 53) rfl)) rfl
theorem w3_54 : Cond.fieldLink RX11 352 RX0 "lower" "I" ∈ gt := gt_in (tm3 _ (List.mem_of_getElem? (i := 54) rfl)) rfl
theorem w3_76 : Cond.fieldLink RX11 9 RX11 "tape" "[I" ∈ gt := gt_in (tm3 _ (List.mem_of_getElem? (i := 76) rfl)) rfl
theorem w3_77 : Cond.fieldLink RX11 104 RX11 "fed" "I" ∈ gt := gt_in (tm3 _ (List.mem_of_getElem? (i := 77) rfl)) rfl
theorem w3_78 : Cond.fieldLink RX11 18 RX11 "scanner" "LClodDesk$Scanner;" ∈ gt := gt_in (tm3 _ (List.mem_of_getElem? (i := 78) rfl)) rfl
theorem w3_79 : Cond.fieldLink RX11 27 RX11 "keyReader" "LClodDesk$KeyReader;" ∈ gt := gt_in (tm3 _ (List.mem_of_getElem? (i := 79) rfl)) rfl
theorem w3_80 : Cond.fieldLink RX11 34 RX11 "currentKey" "LClodDesk$Key;" ∈ gt := gt_in (tm3 _ (List.mem_of_getElem? (i := 80) rfl)) rfl
theorem w3_81 : Cond.fieldLink RX11 170 RX11 "lastFault" "I" ∈ gt := gt_in (tm3 _ (List.mem_of_getElem? (i := 81) rfl)) rfl
theorem w3_82 : Cond.fieldLink RX11 38 RX11 "lastPlace" "I" ∈ gt := gt_in (tm3 _ (List.mem_of_getElem? (i := 82) rfl)) rfl
theorem w3_83 : Cond.fieldLink RX11 45 RX11 "field" "LClodDesk$Land;" ∈ gt := gt_in (tm3 _ (List.mem_of_getElem? (i := 83) rfl)) rfl
theorem w3_84 : Cond.fieldLink RX11 52 RX11 "book" "LClodDesk$Book;" ∈ gt := gt_in (tm3 _ (List.mem_of_getElem? (i := 84) rfl)) rfl
theorem w3_85 : Cond.fieldLink RX11 61 RX11 "chances" "LClodDesk$Chances;" ∈ gt := gt_in (tm3 _ (List.mem_of_getElem? (i := 85) rfl)) rfl
theorem w3_86 : Cond.fieldLink RX11 70 RX11 "drawer" "LClodDesk$Drawer;" ∈ gt := gt_in (tm3 _ (List.mem_of_getElem? (i := 86) rfl)) rfl
theorem w3_87 : Cond.fieldLink RX11 79 RX11 "planner" "LClodDesk$Planner;" ∈ gt := gt_in (tm3 _ (List.mem_of_getElem? (i := 87) rfl)) rfl
theorem w3_88 : Cond.fieldLink RX11 88 RX11 "oldMap" "LClodDesk$OldMap;" ∈ gt := gt_in (tm3 _ (List.mem_of_getElem? (i := 88) rfl)) rfl
theorem w3_89 : Cond.fieldLink RX11 97 RX11 "agreement" "LClodDesk$Agreement;" ∈ gt := gt_in (tm3 _ (List.mem_of_getElem? (i := 89) rfl)) rfl
theorem w3_90 : Cond.fieldLink RX11 101 RX11 "values" "[I" ∈ gt := gt_in (tm3 _ (List.mem_of_getElem? (i := 90) rfl)) rfl
theorem w3_122 : Cond.methodLink RL 21 yX11_feed ∈ gt := gt_in (tm3 _ (List.mem_of_getElem? (i := 122) rfl)) rfl
theorem w3_123 : Cond.instanceMethod yX11_feed ∈ gt := gt_in (tm3 _ (List.mem_of_getElem? (i := 123) rfl)) rfl
theorem w3_124 : Cond.selects RX11 yX11_feed yX11_feed ∈ gt := gt_in (tm3 _ (List.mem_of_getElem? (i := 124) rfl)) rfl
theorem w3_125 : Cond.code yX11_feed cX11_feed 6 (some .int) ∈ gt := gt_in (tm3 _ (List.mem_of_getElem? (i := 125) rfl)) rfl
theorem w3_126 : Cond.methodLink RX11 107 yX11_putBytes ∈ gt := gt_in (tm3 _ (List.mem_of_getElem? (i := 126) rfl)) rfl
theorem w3_128 : Cond.instanceMethod yX11_putBytes ∈ gt := gt_in (tm3 _ (List.mem_of_getElem? (i := 128) rfl)) rfl
theorem w3_129 : Cond.code yX11_putBytes cX11_putBytes 3 none ∈ gt := gt_in (tm3 _ (List.mem_of_getElem? (i := 129) rfl)) rfl
theorem w3_130 : Cond.methodLink RL 26 yX11_key ∈ gt := gt_in (tm3 _ (List.mem_of_getElem? (i := 130) rfl)) rfl
theorem w3_131 : Cond.instanceMethod yX11_key ∈ gt := gt_in (tm3 _ (List.mem_of_getElem? (i := 131) rfl)) rfl
theorem w3_132 : Cond.selects RX11 yX11_key yX11_key ∈ gt := gt_in (tm3 _ (List.mem_of_getElem? (i := 132) rfl)) rfl
theorem w3_133 : Cond.code yX11_key cX11_key 4 (some .int) ∈ gt := gt_in (tm3 _ (List.mem_of_getElem? (i := 133) rfl)) rfl
theorem w3_134 : Cond.methodLink RX11 111 yX10_start ∈ gt := gt_in (tm3 _ (List.mem_of_getElem? (i := 134) rfl)) rfl
theorem w3_135 : Cond.instanceMethod yX10_start ∈ gt := gt_in (tm3 _ (List.mem_of_getElem? (i := 135) rfl)) rfl
theorem w3_136 : Cond.selects RX10 yX10_start yX10_start ∈ gt := gt_in (tm3 _ (List.mem_of_getElem? (i := 136) rfl)) rfl
theorem w3_137 : Cond.code yX10_start cX10_start 2 none ∈ gt := gt_in (tm3 _ (List.mem_of_getElem? (i := 137) rfl)) rfl
theorem w3_138 : Cond.methodLink RX10 39 Lib.Math.min.name ∈ gt := gt_in (tm3 _ (List.mem_of_getElem? (i := 138) rfl)) rfl
theorem w3_139 : Cond.static Lib.Math.min.name ∈ gt := gt_in (tm3 _ (List.mem_of_getElem? (i := 139) rfl)) rfl
theorem w3_140 : Cond.code Lib.Math.min.name Lib.Math.min.code 2 (some .int) ∈ gt := gt_in (tm3 _ (List.mem_of_getElem? (i := 140) rfl)) rfl
theorem w3_141 : Cond.methodLink RX10 53 yX10_step ∈ gt := gt_in (tm3 _ (List.mem_of_getElem? (i := 141) rfl)) rfl
theorem w3_142 : Cond.instanceMethod yX10_step ∈ gt := gt_in (tm3 _ (List.mem_of_getElem? (i := 142) rfl)) rfl
theorem w3_143 : Cond.selects RX10 yX10_step yX10_step ∈ gt := gt_in (tm3 _ (List.mem_of_getElem? (i := 143) rfl)) rfl
theorem w3_144 : Cond.code yX10_step cX10_step 1 none ∈ gt := gt_in (tm3 _ (List.mem_of_getElem? (i := 144) rfl)) rfl
theorem w3_145 : Cond.methodLink RX10 62 yX10_isDigit ∈ gt := gt_in (tm3 _ (List.mem_of_getElem? (i := 145) rfl)) rfl
theorem w3_146 : Cond.static yX10_isDigit ∈ gt := gt_in (tm3 _ (List.mem_of_getElem? (i := 146) rfl)) rfl
theorem w3_147 : Cond.code yX10_isDigit cX10_isDigit 1 (some .boolean) ∈ gt := gt_in (tm3 _ (List.mem_of_getElem? (i := 147) rfl)) rfl
theorem w3_148 : Cond.methodLink RX10 66 yX10_cutNumber ∈ gt := gt_in (tm3 _ (List.mem_of_getElem? (i := 148) rfl)) rfl
theorem w3_150 : Cond.instanceMethod yX10_cutNumber ∈ gt := gt_in (tm3 _ (List.mem_of_getElem? (i := 150) rfl)) rfl
theorem w3_151 : Cond.code yX10_cutNumber cX10_cutNumber 1 none ∈ gt := gt_in (tm3 _ (List.mem_of_getElem? (i := 151) rfl)) rfl
theorem w3_152 : Cond.methodLink RX10 69 yX10_isLetter ∈ gt := gt_in (tm3 _ (List.mem_of_getElem? (i := 152) rfl)) rfl
theorem w3_153 : Cond.static yX10_isLetter ∈ gt := gt_in (tm3 _ (List.mem_of_getElem? (i := 153) rfl)) rfl
theorem w3_154 : Cond.code yX10_isLetter cX10_isLetter 1 (some .boolean) ∈ gt := gt_in (tm3 _ (List.mem_of_getElem? (i := 154) rfl)) rfl
theorem w3_155 : Cond.methodLink RX10 72 yX10_cutWord ∈ gt := gt_in (tm3 _ (List.mem_of_getElem? (i := 155) rfl)) rfl
theorem w3_157 : Cond.instanceMethod yX10_cutWord ∈ gt := gt_in (tm3 _ (List.mem_of_getElem? (i := 157) rfl)) rfl
theorem w3_158 : Cond.code yX10_cutWord cX10_cutWord 1 none ∈ gt := gt_in (tm3 _ (List.mem_of_getElem? (i := 158) rfl)) rfl
theorem w3_159 : Cond.methodLink RX10 91 yX10_wordNumber ∈ gt := gt_in (tm3 _ (List.mem_of_getElem? (i := 159) rfl)) rfl
theorem w3_161 : Cond.instanceMethod yX10_wordNumber ∈ gt := gt_in (tm3 _ (List.mem_of_getElem? (i := 161) rfl)) rfl
theorem w3_162 : Cond.code yX10_wordNumber cX10_wordNumber 2 (some .int) ∈ gt := gt_in (tm3 _ (List.mem_of_getElem? (i := 162) rfl)) rfl
theorem w3_163 : Cond.methodLink RX10 75 yX10_cutSign ∈ gt := gt_in (tm3 _ (List.mem_of_getElem? (i := 163) rfl)) rfl
theorem w3_165 : Cond.instanceMethod yX10_cutSign ∈ gt := gt_in (tm3 _ (List.mem_of_getElem? (i := 165) rfl)) rfl
theorem w3_166 : Cond.code yX10_cutSign cX10_cutSign 1 none ∈ gt := gt_in (tm3 _ (List.mem_of_getElem? (i := 166) rfl)) rfl
theorem w3_167 : Cond.methodLink RX11 114 yX5_readKey ∈ gt := gt_in (tm3 _ (List.mem_of_getElem? (i := 167) rfl)) rfl
theorem w3_168 : Cond.instanceMethod yX5_readKey ∈ gt := gt_in (tm3 _ (List.mem_of_getElem? (i := 168) rfl)) rfl
theorem w3_169 : Cond.selects RX5 yX5_readKey yX5_readKey ∈ gt := gt_in (tm3 _ (List.mem_of_getElem? (i := 169) rfl)) rfl
theorem w3_170 : Cond.code yX5_readKey cX5_readKey 3 (some .boolean) ∈ gt := gt_in (tm3 _ (List.mem_of_getElem? (i := 170) rfl)) rfl
theorem w3_171 : Cond.methodLink RX5 22 yX4_clear ∈ gt := gt_in (tm3 _ (List.mem_of_getElem? (i := 171) rfl)) rfl
theorem w3_172 : Cond.instanceMethod yX4_clear ∈ gt := gt_in (tm3 _ (List.mem_of_getElem? (i := 172) rfl)) rfl
theorem w3_173 : Cond.selects RX4 yX4_clear yX4_clear ∈ gt := gt_in (tm3 _ (List.mem_of_getElem? (i := 173) rfl)) rfl
theorem w3_174 : Cond.code yX4_clear cX4_clear 1 none ∈ gt := gt_in (tm3 _ (List.mem_of_getElem? (i := 174) rfl)) rfl
theorem w3_175 : Cond.methodLink RX5 34 yX5_readKind ∈ gt := gt_in (tm3 _ (List.mem_of_getElem? (i := 175) rfl)) rfl
theorem w3_177 : Cond.instanceMethod yX5_readKind ∈ gt := gt_in (tm3 _ (List.mem_of_getElem? (i := 177) rfl)) rfl
theorem w3_178 : Cond.code yX5_readKind cX5_readKind 2 (some .int) ∈ gt := gt_in (tm3 _ (List.mem_of_getElem? (i := 178) rfl)) rfl
theorem w3_179 : Cond.methodLink RX5 53 yX10_refuse ∈ gt := gt_in (tm3 _ (List.mem_of_getElem? (i := 179) rfl)) rfl
theorem w3_180 : Cond.instanceMethod yX10_refuse ∈ gt := gt_in (tm3 _ (List.mem_of_getElem? (i := 180) rfl)) rfl
theorem w3_181 : Cond.selects RX10 yX10_refuse yX10_refuse ∈ gt := gt_in (tm3 _ (List.mem_of_getElem? (i := 181) rfl)) rfl
theorem w3_182 : Cond.code yX10_refuse cX10_refuse 2 (some .boolean) ∈ gt := gt_in (tm3 _ (List.mem_of_getElem? (i := 182) rfl)) rfl
theorem w3_183 : Cond.methodLink RX5 63 yX4_numberOf ∈ gt := gt_in (tm3 _ (List.mem_of_getElem? (i := 183) rfl)) rfl
theorem w3_184 : Cond.instanceMethod yX4_numberOf ∈ gt := gt_in (tm3 _ (List.mem_of_getElem? (i := 184) rfl)) rfl
theorem w3_185 : Cond.selects RX4 yX4_numberOf yX4_numberOf ∈ gt := gt_in (tm3 _ (List.mem_of_getElem? (i := 185) rfl)) rfl
theorem w3_186 : Cond.code yX4_numberOf cX4_numberOf 4 (some .int) ∈ gt := gt_in (tm3 _ (List.mem_of_getElem? (i := 186) rfl)) rfl
theorem w3_187 : Cond.methodLink RX5 67 yX10_step ∈ gt := gt_in (tm3 _ (List.mem_of_getElem? (i := 187) rfl)) rfl
theorem w3_188 : Cond.methodLink RX5 38 yX10_takeSign ∈ gt := gt_in (tm3 _ (List.mem_of_getElem? (i := 188) rfl)) rfl
theorem w3_189 : Cond.instanceMethod yX10_takeSign ∈ gt := gt_in (tm3 _ (List.mem_of_getElem? (i := 189) rfl)) rfl
theorem w3_190 : Cond.selects RX10 yX10_takeSign yX10_takeSign ∈ gt := gt_in (tm3 _ (List.mem_of_getElem? (i := 190) rfl)) rfl
theorem w3_191 : Cond.code yX10_takeSign cX10_takeSign 2 (some .boolean) ∈ gt := gt_in (tm3 _ (List.mem_of_getElem? (i := 191) rfl)) rfl
theorem w3_192 : Cond.methodLink RX10 81 yX10_isSign ∈ gt := gt_in (tm3 _ (List.mem_of_getElem? (i := 192) rfl)) rfl
theorem w3_193 : Cond.instanceMethod yX10_isSign ∈ gt := gt_in (tm3 _ (List.mem_of_getElem? (i := 193) rfl)) rfl
theorem w3_194 : Cond.selects RX10 yX10_isSign yX10_isSign ∈ gt := gt_in (tm3 _ (List.mem_of_getElem? (i := 194) rfl)) rfl
theorem w3_195 : Cond.code yX10_isSign cX10_isSign 2 (some .boolean) ∈ gt := gt_in (tm3 _ (List.mem_of_getElem? (i := 195) rfl)) rfl
theorem w3_196 : Cond.methodLink RX10 84 yX10_refuse ∈ gt := gt_in (tm3 _ (List.mem_of_getElem? (i := 196) rfl)) rfl
theorem w3_197 : Cond.methodLink RX5 42 yX5_readEither ∈ gt := gt_in (tm3 _ (List.mem_of_getElem? (i := 197) rfl)) rfl
theorem w3_199 : Cond.instanceMethod yX5_readEither ∈ gt := gt_in (tm3 _ (List.mem_of_getElem? (i := 199) rfl)) rfl
theorem w3_200 : Cond.code yX5_readEither cX5_readEither 3 (some .boolean) ∈ gt := gt_in (tm3 _ (List.mem_of_getElem? (i := 200) rfl)) rfl
theorem w3_201 : Cond.methodLink RX5 70 yX5_readBoth ∈ gt := gt_in (tm3 _ (List.mem_of_getElem? (i := 201) rfl)) rfl
theorem w3_203 : Cond.instanceMethod yX5_readBoth ∈ gt := gt_in (tm3 _ (List.mem_of_getElem? (i := 203) rfl)) rfl
theorem w3_204 : Cond.code yX5_readBoth cX5_readBoth 3 (some .boolean) ∈ gt := gt_in (tm3 _ (List.mem_of_getElem? (i := 204) rfl)) rfl
theorem w3_205 : Cond.methodLink RX5 85 yX5_readMaybeNot ∈ gt := gt_in (tm3 _ (List.mem_of_getElem? (i := 205) rfl)) rfl
theorem w3_207 : Cond.instanceMethod yX5_readMaybeNot ∈ gt := gt_in (tm3 _ (List.mem_of_getElem? (i := 207) rfl)) rfl
theorem w3_208 : Cond.code yX5_readMaybeNot cX5_readMaybeNot 4 (some .boolean) ∈ gt := gt_in (tm3 _ (List.mem_of_getElem? (i := 208) rfl)) rfl
theorem w3_209 : Cond.methodLink RX5 73 yX10_isWord ∈ gt := gt_in (tm3 _ (List.mem_of_getElem? (i := 209) rfl)) rfl
theorem w3_210 : Cond.instanceMethod yX10_isWord ∈ gt := gt_in (tm3 _ (List.mem_of_getElem? (i := 210) rfl)) rfl
theorem w3_211 : Cond.selects RX10 yX10_isWord yX10_isWord ∈ gt := gt_in (tm3 _ (List.mem_of_getElem? (i := 211) rfl)) rfl
theorem w3_212 : Cond.code yX10_isWord cX10_isWord 3 (some .boolean) ∈ gt := gt_in (tm3 _ (List.mem_of_getElem? (i := 212) rfl)) rfl
theorem w3_213 : Cond.methodLink RX5 77 yX5_takeKnot ∈ gt := gt_in (tm3 _ (List.mem_of_getElem? (i := 213) rfl)) rfl
theorem w3_215 : Cond.instanceMethod yX5_takeKnot ∈ gt := gt_in (tm3 _ (List.mem_of_getElem? (i := 215) rfl)) rfl
theorem w3_216 : Cond.code yX5_takeKnot cX5_takeKnot 1 (some .boolean) ∈ gt := gt_in (tm3 _ (List.mem_of_getElem? (i := 216) rfl)) rfl
theorem w3_217 : Cond.methodLink RX5 88 yX10_isSign ∈ gt := gt_in (tm3 _ (List.mem_of_getElem? (i := 217) rfl)) rfl
theorem w3_218 : Cond.methodLink RX5 91 yX5_readBracket ∈ gt := gt_in (tm3 _ (List.mem_of_getElem? (i := 218) rfl)) rfl
theorem w3_220 : Cond.instanceMethod yX5_readBracket ∈ gt := gt_in (tm3 _ (List.mem_of_getElem? (i := 220) rfl)) rfl
theorem w3_221 : Cond.code yX5_readBracket cX5_readBracket 3 (some .boolean) ∈ gt := gt_in (tm3 _ (List.mem_of_getElem? (i := 221) rfl)) rfl
theorem w3_222 : Cond.methodLink RX5 94 yX5_readOfLayer ∈ gt := gt_in (tm3 _ (List.mem_of_getElem? (i := 222) rfl)) rfl
theorem w3_224 : Cond.instanceMethod yX5_readOfLayer ∈ gt := gt_in (tm3 _ (List.mem_of_getElem? (i := 224) rfl)) rfl
theorem w3_225 : Cond.code yX5_readOfLayer cX5_readOfLayer 3 (some .boolean) ∈ gt := gt_in (tm3 _ (List.mem_of_getElem? (i := 225) rfl)) rfl
theorem w3_226 : Cond.methodLink RX5 100 yX5_readCompare ∈ gt := gt_in (tm3 _ (List.mem_of_getElem? (i := 226) rfl)) rfl
theorem w3_228 : Cond.instanceMethod yX5_readCompare ∈ gt := gt_in (tm3 _ (List.mem_of_getElem? (i := 228) rfl)) rfl
theorem w3_229 : Cond.code yX5_readCompare cX5_readCompare 4 (some .boolean) ∈ gt := gt_in (tm3 _ (List.mem_of_getElem? (i := 229) rfl)) rfl
theorem w3_230 : Cond.methodLink RX5 103 yX10_isNumberTo ∈ gt := gt_in (tm3 _ (List.mem_of_getElem? (i := 230) rfl)) rfl
theorem w3_231 : Cond.instanceMethod yX10_isNumberTo ∈ gt := gt_in (tm3 _ (List.mem_of_getElem? (i := 231) rfl)) rfl
theorem w3_232 : Cond.selects RX10 yX10_isNumberTo yX10_isNumberTo ∈ gt := gt_in (tm3 _ (List.mem_of_getElem? (i := 232) rfl)) rfl
theorem w3_233 : Cond.code yX10_isNumberTo cX10_isNumberTo 2 (some .boolean) ∈ gt := gt_in (tm3 _ (List.mem_of_getElem? (i := 233) rfl)) rfl
theorem w3_234 : Cond.methodLink RX5 81 yX4_emit ∈ gt := gt_in (tm3 _ (List.mem_of_getElem? (i := 234) rfl)) rfl
theorem w3_235 : Cond.instanceMethod yX4_emit ∈ gt := gt_in (tm3 _ (List.mem_of_getElem? (i := 235) rfl)) rfl
theorem w3_236 : Cond.selects RX4 yX4_emit yX4_emit ∈ gt := gt_in (tm3 _ (List.mem_of_getElem? (i := 236) rfl)) rfl
theorem w3_237 : Cond.code yX4_emit cX4_emit 4 none ∈ gt := gt_in (tm3 _ (List.mem_of_getElem? (i := 237) rfl)) rfl
theorem w3_238 : Cond.methodLink RX5 97 yX5_readOfBore ∈ gt := gt_in (tm3 _ (List.mem_of_getElem? (i := 238) rfl)) rfl
theorem w4_0 : Cond.instanceMethod yX5_readOfBore ∈ gt := gt_in (tm4 _ (List.mem_of_getElem? (i := 0) rfl)) rfl
theorem w4_1 : Cond.code yX5_readOfBore cX5_readOfBore 3 (some .boolean) ∈ gt := gt_in (tm4 _ (List.mem_of_getElem? (i := 1) rfl)) rfl
theorem w4_2 : Cond.methodLink RX5 46 yX4_endLine ∈ gt := gt_in (tm4 _ (List.mem_of_getElem? (i := 2) rfl)) rfl
theorem w4_3 : Cond.instanceMethod yX4_endLine ∈ gt := gt_in (tm4 _ (List.mem_of_getElem? (i := 3) rfl)) rfl
theorem w4_4 : Cond.selects RX4 yX4_endLine yX4_endLine ∈ gt := gt_in (tm4 _ (List.mem_of_getElem? (i := 4) rfl)) rfl
theorem w4_5 : Cond.code yX4_endLine cX4_endLine 2 none ∈ gt := gt_in (tm4 _ (List.mem_of_getElem? (i := 5) rfl)) rfl
theorem w4_6 : Cond.methodLink RX11 118 yX11_keepFault ∈ gt := gt_in (tm4 _ (List.mem_of_getElem? (i := 6) rfl)) rfl
theorem w4_8 : Cond.instanceMethod yX11_keepFault ∈ gt := gt_in (tm4 _ (List.mem_of_getElem? (i := 8) rfl)) rfl
theorem w4_9 : Cond.code yX11_keepFault cX11_keepFault 1 none ∈ gt := gt_in (tm4 _ (List.mem_of_getElem? (i := 9) rfl)) rfl
theorem w4_10 : Cond.methodLink RX11 121 yX5_handOver ∈ gt := gt_in (tm4 _ (List.mem_of_getElem? (i := 10) rfl)) rfl
theorem w4_11 : Cond.instanceMethod yX5_handOver ∈ gt := gt_in (tm4 _ (List.mem_of_getElem? (i := 11) rfl)) rfl
theorem w4_12 : Cond.selects RX5 yX5_handOver yX5_handOver ∈ gt := gt_in (tm4 _ (List.mem_of_getElem? (i := 12) rfl)) rfl
theorem w4_13 : Cond.code yX5_handOver cX5_handOver 3 (some (.object "ClodDesk$Key")) ∈ gt := gt_in (tm4 _ (List.mem_of_getElem? (i := 13) rfl)) rfl
theorem w4_14 : Cond.methodLink RX11 128 yX2_resetReads ∈ gt := gt_in (tm4 _ (List.mem_of_getElem? (i := 14) rfl)) rfl
theorem w4_15 : Cond.instanceMethod yX2_resetReads ∈ gt := gt_in (tm4 _ (List.mem_of_getElem? (i := 15) rfl)) rfl
theorem w4_16 : Cond.selects RX2 yX2_resetReads yX2_resetReads ∈ gt := gt_in (tm4 _ (List.mem_of_getElem? (i := 16) rfl)) rfl
theorem w4_17 : Cond.code yX2_resetReads cX2_resetReads 5 none ∈ gt := gt_in (tm4 _ (List.mem_of_getElem? (i := 17) rfl)) rfl
theorem w4_18 : Cond.methodLink RX2 33 yX2_place ∈ gt := gt_in (tm4 _ (List.mem_of_getElem? (i := 18) rfl)) rfl
theorem w4_19 : Cond.static yX2_place ∈ gt := gt_in (tm4 _ (List.mem_of_getElem? (i := 19) rfl)) rfl
theorem w4_20 : Cond.code yX2_place cX2_place 3 (some .int) ∈ gt := gt_in (tm4 _ (List.mem_of_getElem? (i := 20) rfl)) rfl
theorem w4_21 : Cond.methodLink RX11 131 yX1_judgeAll ∈ gt := gt_in (tm4 _ (List.mem_of_getElem? (i := 21) rfl)) rfl
theorem w4_22 : Cond.instanceMethod yX1_judgeAll ∈ gt := gt_in (tm4 _ (List.mem_of_getElem? (i := 22) rfl)) rfl
theorem w4_23 : Cond.selects RX1 yX1_judgeAll yX1_judgeAll ∈ gt := gt_in (tm4 _ (List.mem_of_getElem? (i := 23) rfl)) rfl
theorem w4_24 : Cond.code yX1_judgeAll cX1_judgeAll 3 none ∈ gt := gt_in (tm4 _ (List.mem_of_getElem? (i := 24) rfl)) rfl
theorem w4_25 : Cond.methodLink RX1 37 yX7_judge ∈ gt := gt_in (tm4 _ (List.mem_of_getElem? (i := 25) rfl)) rfl
theorem w4_26 : Cond.instanceMethod yX7_judge ∈ gt := gt_in (tm4 _ (List.mem_of_getElem? (i := 26) rfl)) rfl
theorem w4_27 : Cond.selects RX7 yX7_judge yX7_judge ∈ gt := gt_in (tm4 _ (List.mem_of_getElem? (i := 27) rfl)) rfl
theorem w4_28 : Cond.code yX7_judge cX7_judge 2 none ∈ gt := gt_in (tm4 _ (List.mem_of_getElem? (i := 28) rfl)) rfl
theorem w4_29 : Cond.methodLink RX7 32 yX4_firstLineOf ∈ gt := gt_in (tm4 _ (List.mem_of_getElem? (i := 29) rfl)) rfl
theorem w4_30 : Cond.instanceMethod yX4_firstLineOf ∈ gt := gt_in (tm4 _ (List.mem_of_getElem? (i := 30) rfl)) rfl
theorem w4_31 : Cond.selects RX4 yX4_firstLineOf yX4_firstLineOf ∈ gt := gt_in (tm4 _ (List.mem_of_getElem? (i := 31) rfl)) rfl
theorem w4_32 : Cond.code yX4_firstLineOf cX4_firstLineOf 4 (some .int) ∈ gt := gt_in (tm4 _ (List.mem_of_getElem? (i := 32) rfl)) rfl
theorem w4_33 : Cond.methodLink RX4 47 yX4_holds ∈ gt := gt_in (tm4 _ (List.mem_of_getElem? (i := 33) rfl)) rfl
theorem w4_35 : Cond.instanceMethod yX4_holds ∈ gt := gt_in (tm4 _ (List.mem_of_getElem? (i := 35) rfl)) rfl
theorem w4_36 : Cond.code yX4_holds cX4_holds 6 (some .boolean) ∈ gt := gt_in (tm4 _ (List.mem_of_getElem? (i := 36) rfl)) rfl
theorem w4_37 : Cond.methodLink RX4 51 yX4_changed ∈ gt := gt_in (tm4 _ (List.mem_of_getElem? (i := 37) rfl)) rfl
theorem w4_39 : Cond.instanceMethod yX4_changed ∈ gt := gt_in (tm4 _ (List.mem_of_getElem? (i := 39) rfl)) rfl
theorem w4_40 : Cond.code yX4_changed cX4_changed 6 (some .int) ∈ gt := gt_in (tm4 _ (List.mem_of_getElem? (i := 40) rfl)) rfl
theorem w4_41 : Cond.methodLink RX4 59 yX7_allLayers ∈ gt := gt_in (tm4 _ (List.mem_of_getElem? (i := 41) rfl)) rfl
theorem w4_42 : Cond.instanceMethod yX7_allLayers ∈ gt := gt_in (tm4 _ (List.mem_of_getElem? (i := 42) rfl)) rfl
theorem w4_43 : Cond.selects RX7 yX7_allLayers yX7_allLayers ∈ gt := gt_in (tm4 _ (List.mem_of_getElem? (i := 43) rfl)) rfl
theorem w4_44 : Cond.code yX7_allLayers cX7_allLayers 1 (some .int) ∈ gt := gt_in (tm4 _ (List.mem_of_getElem? (i := 44) rfl)) rfl
theorem w4_45 : Cond.methodLink RX4 82 yX4_isAt ∈ gt := gt_in (tm4 _ (List.mem_of_getElem? (i := 45) rfl)) rfl
theorem w4_46 : Cond.static yX4_isAt ∈ gt := gt_in (tm4 _ (List.mem_of_getElem? (i := 46) rfl)) rfl
theorem w4_47 : Cond.code yX4_isAt cX4_isAt 4 (some .boolean) ∈ gt := gt_in (tm4 _ (List.mem_of_getElem? (i := 47) rfl)) rfl
theorem w4_48 : Cond.methodLink RX4 78 yX7_get ∈ gt := gt_in (tm4 _ (List.mem_of_getElem? (i := 48) rfl)) rfl
theorem w4_49 : Cond.instanceMethod yX7_get ∈ gt := gt_in (tm4 _ (List.mem_of_getElem? (i := 49) rfl)) rfl
theorem w4_50 : Cond.selects RX7 yX7_get yX7_get ∈ gt := gt_in (tm4 _ (List.mem_of_getElem? (i := 50) rfl)) rfl
theorem w4_51 : Cond.code yX7_get cX7_get 3 (some .int) ∈ gt := gt_in (tm4 _ (List.mem_of_getElem? (i := 51) rfl)) rfl
theorem w4_52 : Cond.methodLink RX4 85 yX4_thickness ∈ gt := gt_in (tm4 _ (List.mem_of_getElem? (i := 52) rfl)) rfl
theorem w4_53 : Cond.static yX4_thickness ∈ gt := gt_in (tm4 _ (List.mem_of_getElem? (i := 53) rfl)) rfl
theorem w4_54 : Cond.code yX4_thickness cX4_thickness 4 (some .int) ∈ gt := gt_in (tm4 _ (List.mem_of_getElem? (i := 54) rfl)) rfl
theorem w4_55 : Cond.methodLink RX4 68 yX4_compares ∈ gt := gt_in (tm4 _ (List.mem_of_getElem? (i := 55) rfl)) rfl
theorem w4_57 : Cond.instanceMethod yX4_compares ∈ gt := gt_in (tm4 _ (List.mem_of_getElem? (i := 57) rfl)) rfl
theorem w4_58 : Cond.code yX4_compares cX4_compares 3 (some .boolean) ∈ gt := gt_in (tm4 _ (List.mem_of_getElem? (i := 58) rfl)) rfl
theorem w4_59 : Cond.methodLink RX4 88 yX4_firstBegin ∈ gt := gt_in (tm4 _ (List.mem_of_getElem? (i := 59) rfl)) rfl
theorem w4_60 : Cond.static yX4_firstBegin ∈ gt := gt_in (tm4 _ (List.mem_of_getElem? (i := 60) rfl)) rfl
theorem w4_61 : Cond.code yX4_firstBegin cX4_firstBegin 3 (some .int) ∈ gt := gt_in (tm4 _ (List.mem_of_getElem? (i := 61) rfl)) rfl
theorem w4_62 : Cond.methodLink RX4 55 yX4_leaf ∈ gt := gt_in (tm4 _ (List.mem_of_getElem? (i := 62) rfl)) rfl
theorem w4_64 : Cond.instanceMethod yX4_leaf ∈ gt := gt_in (tm4 _ (List.mem_of_getElem? (i := 64) rfl)) rfl
theorem w4_65 : Cond.code yX4_leaf cX4_leaf 6 (some .int) ∈ gt := gt_in (tm4 _ (List.mem_of_getElem? (i := 65) rfl)) rfl
theorem w4_66 : Cond.methodLink RX4 65 yX7_depth ∈ gt := gt_in (tm4 _ (List.mem_of_getElem? (i := 66) rfl)) rfl
theorem w4_67 : Cond.instanceMethod yX7_depth ∈ gt := gt_in (tm4 _ (List.mem_of_getElem? (i := 67) rfl)) rfl
theorem w4_68 : Cond.selects RX7 yX7_depth yX7_depth ∈ gt := gt_in (tm4 _ (List.mem_of_getElem? (i := 68) rfl)) rfl
theorem w4_69 : Cond.code yX7_depth cX7_depth 1 (some .int) ∈ gt := gt_in (tm4 _ (List.mem_of_getElem? (i := 69) rfl)) rfl
theorem w4_70 : Cond.methodLink RX7 28 yX7_get ∈ gt := gt_in (tm4 _ (List.mem_of_getElem? (i := 70) rfl)) rfl
theorem w4_71 : Cond.methodLink RX4 75 yX4_isSo ∈ gt := gt_in (tm4 _ (List.mem_of_getElem? (i := 71) rfl)) rfl
theorem w4_73 : Cond.instanceMethod yX4_isSo ∈ gt := gt_in (tm4 _ (List.mem_of_getElem? (i := 73) rfl)) rfl
theorem w4_74 : Cond.code yX4_isSo cX4_isSo 4 (some .boolean) ∈ gt := gt_in (tm4 _ (List.mem_of_getElem? (i := 74) rfl)) rfl
theorem w4_75 : Cond.methodLink RL 31 yX11_bore ∈ gt := gt_in (tm4 _ (List.mem_of_getElem? (i := 75) rfl)) rfl
theorem w4_76 : Cond.instanceMethod yX11_bore ∈ gt := gt_in (tm4 _ (List.mem_of_getElem? (i := 76) rfl)) rfl
theorem w4_77 : Cond.selects RX11 yX11_bore yX11_bore ∈ gt := gt_in (tm4 _ (List.mem_of_getElem? (i := 77) rfl)) rfl
theorem w4_78 : Cond.code yX11_bore cX11_bore 6 (some .int) ∈ gt := gt_in (tm4 _ (List.mem_of_getElem? (i := 78) rfl)) rfl
theorem w4_79 : Cond.methodLink RX11 138 yX11_isHand ∈ gt := gt_in (tm4 _ (List.mem_of_getElem? (i := 79) rfl)) rfl
theorem w4_80 : Cond.static yX11_isHand ∈ gt := gt_in (tm4 _ (List.mem_of_getElem? (i := 80) rfl)) rfl
theorem w4_81 : Cond.code yX11_isHand cX11_isHand 1 (some .boolean) ∈ gt := gt_in (tm4 _ (List.mem_of_getElem? (i := 81) rfl)) rfl
theorem w4_82 : Cond.methodLink RX11 142 yX6_hasCell ∈ gt := gt_in (tm4 _ (List.mem_of_getElem? (i := 82) rfl)) rfl
theorem w4_83 : Cond.instanceMethod yX6_hasCell ∈ gt := gt_in (tm4 _ (List.mem_of_getElem? (i := 83) rfl)) rfl
theorem w4_84 : Cond.selects RX6 yX6_hasCell yX6_hasCell ∈ gt := gt_in (tm4 _ (List.mem_of_getElem? (i := 84) rfl)) rfl
theorem w4_85 : Cond.code yX6_hasCell cX6_hasCell 2 (some .boolean) ∈ gt := gt_in (tm4 _ (List.mem_of_getElem? (i := 85) rfl)) rfl
theorem w4_86 : Cond.methodLink RX11 152 yX7_readFrom ∈ gt := gt_in (tm4 _ (List.mem_of_getElem? (i := 86) rfl)) rfl
theorem w4_87 : Cond.instanceMethod yX7_readFrom ∈ gt := gt_in (tm4 _ (List.mem_of_getElem? (i := 87) rfl)) rfl
theorem w4_88 : Cond.selects RX7 yX7_readFrom yX7_readFrom ∈ gt := gt_in (tm4 _ (List.mem_of_getElem? (i := 88) rfl)) rfl
theorem w4_89 : Cond.code yX7_readFrom cX7_readFrom 3 (some .boolean) ∈ gt := gt_in (tm4 _ (List.mem_of_getElem? (i := 89) rfl)) rfl
theorem w4_90 : Cond.methodLink RX7 41 yX7_readDepths ∈ gt := gt_in (tm4 _ (List.mem_of_getElem? (i := 90) rfl)) rfl
theorem w4_92 : Cond.instanceMethod yX7_readDepths ∈ gt := gt_in (tm4 _ (List.mem_of_getElem? (i := 92) rfl)) rfl
theorem w4_93 : Cond.code yX7_readDepths cX7_readDepths 4 (some .boolean) ∈ gt := gt_in (tm4 _ (List.mem_of_getElem? (i := 93) rfl)) rfl
theorem w4_94 : Cond.methodLink RX7 60 yX7_depth ∈ gt := gt_in (tm4 _ (List.mem_of_getElem? (i := 94) rfl)) rfl
theorem w4_95 : Cond.methodLink RX7 64 yX10_isNumberTo ∈ gt := gt_in (tm4 _ (List.mem_of_getElem? (i := 95) rfl)) rfl
theorem w4_96 : Cond.methodLink RX7 57 yX10_refuse ∈ gt := gt_in (tm4 _ (List.mem_of_getElem? (i := 96) rfl)) rfl
theorem w4_97 : Cond.methodLink RX7 70 yX7_set ∈ gt := gt_in (tm4 _ (List.mem_of_getElem? (i := 97) rfl)) rfl
theorem w4_98 : Cond.instanceMethod yX7_set ∈ gt := gt_in (tm4 _ (List.mem_of_getElem? (i := 98) rfl)) rfl
theorem w4_99 : Cond.selects RX7 yX7_set yX7_set ∈ gt := gt_in (tm4 _ (List.mem_of_getElem? (i := 99) rfl)) rfl
theorem w4_100 : Cond.code yX7_set cX7_set 4 none ∈ gt := gt_in (tm4 _ (List.mem_of_getElem? (i := 100) rfl)) rfl
theorem w4_101 : Cond.methodLink RX7 74 yX10_step ∈ gt := gt_in (tm4 _ (List.mem_of_getElem? (i := 101) rfl)) rfl
theorem w4_102 : Cond.methodLink RX7 53 yX10_takeSign ∈ gt := gt_in (tm4 _ (List.mem_of_getElem? (i := 102) rfl)) rfl
theorem w4_103 : Cond.methodLink RX7 45 yX7_readLook ∈ gt := gt_in (tm4 _ (List.mem_of_getElem? (i := 103) rfl)) rfl
theorem w4_105 : Cond.instanceMethod yX7_readLook ∈ gt := gt_in (tm4 _ (List.mem_of_getElem? (i := 105) rfl)) rfl
theorem w4_106 : Cond.code yX7_readLook cX7_readLook 4 (some .boolean) ∈ gt := gt_in (tm4 _ (List.mem_of_getElem? (i := 106) rfl)) rfl
theorem w4_107 : Cond.methodLink RX7 77 yX7_readWord ∈ gt := gt_in (tm4 _ (List.mem_of_getElem? (i := 107) rfl)) rfl
theorem w4_109 : Cond.instanceMethod yX7_readWord ∈ gt := gt_in (tm4 _ (List.mem_of_getElem? (i := 109) rfl)) rfl
theorem w4_110 : Cond.code yX7_readWord cX7_readWord 6 (some .boolean) ∈ gt := gt_in (tm4 _ (List.mem_of_getElem? (i := 110) rfl)) rfl
theorem w4_111 : Cond.methodLink RX7 81 yX10_isWord ∈ gt := gt_in (tm4 _ (List.mem_of_getElem? (i := 111) rfl)) rfl
theorem w4_112 : Cond.methodLink RX7 85 yX7_readStones ∈ gt := gt_in (tm4 _ (List.mem_of_getElem? (i := 112) rfl)) rfl
theorem w4_114 : Cond.instanceMethod yX7_readStones ∈ gt := gt_in (tm4 _ (List.mem_of_getElem? (i := 114) rfl)) rfl
theorem w4_115 : Cond.code yX7_readStones cX7_readStones 3 (some .boolean) ∈ gt := gt_in (tm4 _ (List.mem_of_getElem? (i := 115) rfl)) rfl
theorem w4_116 : Cond.methodLink RX11 167 yX7_judge ∈ gt := gt_in (tm4 _ (List.mem_of_getElem? (i := 116) rfl)) rfl
theorem w4_117 : Cond.methodLink RL 36 yX11_fault ∈ gt := gt_in (tm4 _ (List.mem_of_getElem? (i := 117) rfl)) rfl
theorem w4_118 : Cond.instanceMethod yX11_fault ∈ gt := gt_in (tm4 _ (List.mem_of_getElem? (i := 118) rfl)) rfl
theorem w4_119 : Cond.selects RX11 yX11_fault yX11_fault ∈ gt := gt_in (tm4 _ (List.mem_of_getElem? (i := 119) rfl)) rfl
theorem w4_120 : Cond.code yX11_fault cX11_fault 2 (some .int) ∈ gt := gt_in (tm4 _ (List.mem_of_getElem? (i := 120) rfl)) rfl
theorem w4_121 : Cond.methodLink RL 40 yX11_strike ∈ gt := gt_in (tm4 _ (List.mem_of_getElem? (i := 121) rfl)) rfl
theorem w4_122 : Cond.instanceMethod yX11_strike ∈ gt := gt_in (tm4 _ (List.mem_of_getElem? (i := 122) rfl)) rfl
theorem w4_123 : Cond.selects RX11 yX11_strike yX11_strike ∈ gt := gt_in (tm4 _ (List.mem_of_getElem? (i := 123) rfl)) rfl
theorem w4_124 : Cond.code yX11_strike cX11_strike 2 (some .int) ∈ gt := gt_in (tm4 _ (List.mem_of_getElem? (i := 124) rfl)) rfl
theorem w4_125 : Cond.methodLink RX11 173 yX1_hasNote ∈ gt := gt_in (tm4 _ (List.mem_of_getElem? (i := 125) rfl)) rfl
theorem w4_126 : Cond.instanceMethod yX1_hasNote ∈ gt := gt_in (tm4 _ (List.mem_of_getElem? (i := 126) rfl)) rfl
theorem w4_127 : Cond.selects RX1 yX1_hasNote yX1_hasNote ∈ gt := gt_in (tm4 _ (List.mem_of_getElem? (i := 127) rfl)) rfl
theorem w4_128 : Cond.code yX1_hasNote cX1_hasNote 2 (some .boolean) ∈ gt := gt_in (tm4 _ (List.mem_of_getElem? (i := 128) rfl)) rfl
theorem w4_129 : Cond.methodLink RL 44 yX11_land ∈ gt := gt_in (tm4 _ (List.mem_of_getElem? (i := 129) rfl)) rfl
theorem w4_130 : Cond.instanceMethod yX11_land ∈ gt := gt_in (tm4 _ (List.mem_of_getElem? (i := 130) rfl)) rfl
theorem w4_131 : Cond.selects RX11 yX11_land yX11_land ∈ gt := gt_in (tm4 _ (List.mem_of_getElem? (i := 131) rfl)) rfl
theorem w4_132 : Cond.code yX11_land cX11_land 3 (some .boolean) ∈ gt := gt_in (tm4 _ (List.mem_of_getElem? (i := 132) rfl)) rfl
theorem w4_133 : Cond.methodLink RX11 176 yX6_renew ∈ gt := gt_in (tm4 _ (List.mem_of_getElem? (i := 133) rfl)) rfl
theorem w4_134 : Cond.methodLink RL 49 yX11_ground ∈ gt := gt_in (tm4 _ (List.mem_of_getElem? (i := 134) rfl)) rfl
theorem w4_135 : Cond.instanceMethod yX11_ground ∈ gt := gt_in (tm4 _ (List.mem_of_getElem? (i := 135) rfl)) rfl
theorem w4_136 : Cond.selects RX11 yX11_ground yX11_ground ∈ gt := gt_in (tm4 _ (List.mem_of_getElem? (i := 136) rfl)) rfl
theorem w4_137 : Cond.code yX11_ground cX11_ground 4 (some .boolean) ∈ gt := gt_in (tm4 _ (List.mem_of_getElem? (i := 137) rfl)) rfl
theorem w4_138 : Cond.methodLink RX11 180 yX6_put ∈ gt := gt_in (tm4 _ (List.mem_of_getElem? (i := 138) rfl)) rfl
theorem w4_139 : Cond.instanceMethod yX6_put ∈ gt := gt_in (tm4 _ (List.mem_of_getElem? (i := 139) rfl)) rfl
theorem w4_140 : Cond.selects RX6 yX6_put yX6_put ∈ gt := gt_in (tm4 _ (List.mem_of_getElem? (i := 140) rfl)) rfl
theorem w4_141 : Cond.code yX6_put cX6_put 4 (some .boolean) ∈ gt := gt_in (tm4 _ (List.mem_of_getElem? (i := 141) rfl)) rfl
theorem w4_142 : Cond.fieldLink RX6 64 RX6 "LEAST" "[I" ∈ gt := gt_in (tm4 _ (List.mem_of_getElem? (i := 142) rfl)) rfl
theorem w4_144 : Cond.fieldLink RX6 67 RX6 "MOST" "[I" ∈ gt := gt_in (tm4 _ (List.mem_of_getElem? (i := 144) rfl)) rfl
theorem w4_146 : Cond.methodLink RL 54 yX11_bounds ∈ gt := gt_in (tm4 _ (List.mem_of_getElem? (i := 146) rfl)) rfl
theorem w4_147 : Cond.instanceMethod yX11_bounds ∈ gt := gt_in (tm4 _ (List.mem_of_getElem? (i := 147) rfl)) rfl
theorem w4_148 : Cond.selects RX11 yX11_bounds yX11_bounds ∈ gt := gt_in (tm4 _ (List.mem_of_getElem? (i := 148) rfl)) rfl
theorem w4_149 : Cond.code yX11_bounds cX11_bounds 4 (some .boolean) ∈ gt := gt_in (tm4 _ (List.mem_of_getElem? (i := 149) rfl)) rfl
theorem w4_150 : Cond.methodLink RX11 184 yX6_putBounds ∈ gt := gt_in (tm4 _ (List.mem_of_getElem? (i := 150) rfl)) rfl
theorem w4_151 : Cond.instanceMethod yX6_putBounds ∈ gt := gt_in (tm4 _ (List.mem_of_getElem? (i := 151) rfl)) rfl
theorem w4_152 : Cond.selects RX6 yX6_putBounds yX6_putBounds ∈ gt := gt_in (tm4 _ (List.mem_of_getElem? (i := 152) rfl)) rfl
theorem w4_153 : Cond.code yX6_putBounds cX6_putBounds 4 (some .boolean) ∈ gt := gt_in (tm4 _ (List.mem_of_getElem? (i := 153) rfl)) rfl
theorem w4_154 : Cond.methodLink RL 58 yX11_price ∈ gt := gt_in (tm4 _ (List.mem_of_getElem? (i := 154) rfl)) rfl
theorem w4_155 : Cond.instanceMethod yX11_price ∈ gt := gt_in (tm4 _ (List.mem_of_getElem? (i := 155) rfl)) rfl
theorem w4_156 : Cond.selects RX11 yX11_price yX11_price ∈ gt := gt_in (tm4 _ (List.mem_of_getElem? (i := 156) rfl)) rfl
theorem w4_157 : Cond.code yX11_price cX11_price 3 (some .boolean) ∈ gt := gt_in (tm4 _ (List.mem_of_getElem? (i := 157) rfl)) rfl
theorem w4_158 : Cond.methodLink RL 62 yX11_reads ∈ gt := gt_in (tm4 _ (List.mem_of_getElem? (i := 158) rfl)) rfl
theorem w4_159 : Cond.instanceMethod yX11_reads ∈ gt := gt_in (tm4 _ (List.mem_of_getElem? (i := 159) rfl)) rfl
theorem w4_160 : Cond.selects RX11 yX11_reads yX11_reads ∈ gt := gt_in (tm4 _ (List.mem_of_getElem? (i := 160) rfl)) rfl
theorem w4_161 : Cond.code yX11_reads cX11_reads 7 (some .boolean) ∈ gt := gt_in (tm4 _ (List.mem_of_getElem? (i := 161) rfl)) rfl
theorem w4_162 : Cond.methodLink RX11 193 yX11_isKind ∈ gt := gt_in (tm4 _ (List.mem_of_getElem? (i := 162) rfl)) rfl
theorem w4_164 : Cond.instanceMethod yX11_isKind ∈ gt := gt_in (tm4 _ (List.mem_of_getElem? (i := 164) rfl)) rfl
theorem w4_165 : Cond.code yX11_isKind cX11_isKind 2 (some .boolean) ∈ gt := gt_in (tm4 _ (List.mem_of_getElem? (i := 165) rfl)) rfl
theorem w4_166 : Cond.methodLink RX11 196 yX2_noteRow ∈ gt := gt_in (tm4 _ (List.mem_of_getElem? (i := 166) rfl)) rfl
theorem w4_167 : Cond.instanceMethod yX2_noteRow ∈ gt := gt_in (tm4 _ (List.mem_of_getElem? (i := 167) rfl)) rfl
theorem w4_168 : Cond.selects RX2 yX2_noteRow yX2_noteRow ∈ gt := gt_in (tm4 _ (List.mem_of_getElem? (i := 168) rfl)) rfl
theorem w4_169 : Cond.code yX2_noteRow cX2_noteRow 3 none ∈ gt := gt_in (tm4 _ (List.mem_of_getElem? (i := 169) rfl)) rfl
theorem w4_170 : Cond.methodLink RX11 199 yX2_takeRow ∈ gt := gt_in (tm4 _ (List.mem_of_getElem? (i := 170) rfl)) rfl
theorem w4_171 : Cond.instanceMethod yX2_takeRow ∈ gt := gt_in (tm4 _ (List.mem_of_getElem? (i := 171) rfl)) rfl
theorem w4_172 : Cond.selects RX2 yX2_takeRow yX2_takeRow ∈ gt := gt_in (tm4 _ (List.mem_of_getElem? (i := 172) rfl)) rfl
theorem w4_173 : Cond.code yX2_takeRow cX2_takeRow 5 (some .boolean) ∈ gt := gt_in (tm4 _ (List.mem_of_getElem? (i := 173) rfl)) rfl
theorem w4_174 : Cond.methodLink RL 67 yX11_value ∈ gt := gt_in (tm4 _ (List.mem_of_getElem? (i := 174) rfl)) rfl
theorem w4_175 : Cond.instanceMethod yX11_value ∈ gt := gt_in (tm4 _ (List.mem_of_getElem? (i := 175) rfl)) rfl
theorem w4_176 : Cond.selects RX11 yX11_value yX11_value ∈ gt := gt_in (tm4 _ (List.mem_of_getElem? (i := 176) rfl)) rfl
theorem w4_177 : Cond.code yX11_value cX11_value 3 (some .boolean) ∈ gt := gt_in (tm4 _ (List.mem_of_getElem? (i := 177) rfl)) rfl
theorem w4_178 : Cond.methodLink RL 71 yX11_layer ∈ gt := gt_in (tm4 _ (List.mem_of_getElem? (i := 178) rfl)) rfl
theorem w4_179 : Cond.instanceMethod yX11_layer ∈ gt := gt_in (tm4 _ (List.mem_of_getElem? (i := 179) rfl)) rfl
theorem w4_180 : Cond.selects RX11 yX11_layer yX11_layer ∈ gt := gt_in (tm4 _ (List.mem_of_getElem? (i := 180) rfl)) rfl
theorem w4_181 : Cond.code yX11_layer cX11_layer 5 (some .int) ∈ gt := gt_in (tm4 _ (List.mem_of_getElem? (i := 181) rfl)) rfl
theorem w4_182 : Cond.methodLink RX11 203 yX1_hasBore ∈ gt := gt_in (tm4 _ (List.mem_of_getElem? (i := 182) rfl)) rfl
theorem w4_183 : Cond.instanceMethod yX1_hasBore ∈ gt := gt_in (tm4 _ (List.mem_of_getElem? (i := 183) rfl)) rfl
theorem w4_184 : Cond.selects RX1 yX1_hasBore yX1_hasBore ∈ gt := gt_in (tm4 _ (List.mem_of_getElem? (i := 184) rfl)) rfl
theorem w4_185 : Cond.code yX1_hasBore cX1_hasBore 2 (some .boolean) ∈ gt := gt_in (tm4 _ (List.mem_of_getElem? (i := 185) rfl)) rfl
theorem w4_186 : Cond.methodLink RX1 30 yX1_hasNote ∈ gt := gt_in (tm4 _ (List.mem_of_getElem? (i := 186) rfl)) rfl
theorem w4_187 : Cond.methodLink RX11 209 yX7_get ∈ gt := gt_in (tm4 _ (List.mem_of_getElem? (i := 187) rfl)) rfl
theorem w4_188 : Cond.methodLink RL 75 yX11_told ∈ gt := gt_in (tm4 _ (List.mem_of_getElem? (i := 188) rfl)) rfl
theorem w4_189 : Cond.instanceMethod yX11_told ∈ gt := gt_in (tm4 _ (List.mem_of_getElem? (i := 189) rfl)) rfl
theorem w4_190 : Cond.selects RX11 yX11_told yX11_told ∈ gt := gt_in (tm4 _ (List.mem_of_getElem? (i := 190) rfl)) rfl
theorem w4_191 : Cond.code yX11_told cX11_told 4 (some .int) ∈ gt := gt_in (tm4 _ (List.mem_of_getElem? (i := 191) rfl)) rfl
theorem w4_192 : Cond.methodLink RL 89 yX11_like ∈ gt := gt_in (tm4 _ (List.mem_of_getElem? (i := 192) rfl)) rfl
theorem w4_193 : Cond.instanceMethod yX11_like ∈ gt := gt_in (tm4 _ (List.mem_of_getElem? (i := 193) rfl)) rfl
theorem w4_194 : Cond.selects RX11 yX11_like yX11_like ∈ gt := gt_in (tm4 _ (List.mem_of_getElem? (i := 194) rfl)) rfl
theorem w4_195 : Cond.code yX11_like cX11_like 3 (some .int) ∈ gt := gt_in (tm4 _ (List.mem_of_getElem? (i := 195) rfl)) rfl
theorem w4_196 : Cond.methodLink RX11 244 yX6_likeness ∈ gt := gt_in (tm4 _ (List.mem_of_getElem? (i := 196) rfl)) rfl
theorem w4_197 : Cond.instanceMethod yX6_likeness ∈ gt := gt_in (tm4 _ (List.mem_of_getElem? (i := 197) rfl)) rfl
theorem w4_198 : Cond.selects RX6 yX6_likeness yX6_likeness ∈ gt := gt_in (tm4 _ (List.mem_of_getElem? (i := 198) rfl)) rfl
theorem w4_199 : Cond.code yX6_likeness cX6_likeness 4 (some .int) ∈ gt := gt_in (tm4 _ (List.mem_of_getElem? (i := 199) rfl)) rfl
theorem w4_200 : Cond.methodLink RX6 80 yX6_far ∈ gt := gt_in (tm4 _ (List.mem_of_getElem? (i := 200) rfl)) rfl
theorem w4_201 : Cond.instanceMethod yX6_far ∈ gt := gt_in (tm4 _ (List.mem_of_getElem? (i := 201) rfl)) rfl
theorem w4_202 : Cond.selects RX6 yX6_far yX6_far ∈ gt := gt_in (tm4 _ (List.mem_of_getElem? (i := 202) rfl)) rfl
theorem w4_203 : Cond.code yX6_far cX6_far 3 (some .int) ∈ gt := gt_in (tm4 _ (List.mem_of_getElem? (i := 203) rfl)) rfl
theorem w4_204 : Cond.methodLink RL 93 yX11_chance ∈ gt := gt_in (tm4 _ (List.mem_of_getElem? (i := 204) rfl)) rfl
theorem w4_205 : Cond.instanceMethod yX11_chance ∈ gt := gt_in (tm4 _ (List.mem_of_getElem? (i := 205) rfl)) rfl
theorem w4_206 : Cond.selects RX11 yX11_chance yX11_chance ∈ gt := gt_in (tm4 _ (List.mem_of_getElem? (i := 206) rfl)) rfl
theorem w4_207 : Cond.code yX11_chance cX11_chance 6 (some .int) ∈ gt := gt_in (tm4 _ (List.mem_of_getElem? (i := 207) rfl)) rfl
theorem w4_208 : Cond.methodLink RX11 247 yX1_knows ∈ gt := gt_in (tm4 _ (List.mem_of_getElem? (i := 208) rfl)) rfl
theorem w4_209 : Cond.instanceMethod yX1_knows ∈ gt := gt_in (tm4 _ (List.mem_of_getElem? (i := 209) rfl)) rfl
theorem w4_210 : Cond.selects RX1 yX1_knows yX1_knows ∈ gt := gt_in (tm4 _ (List.mem_of_getElem? (i := 210) rfl)) rfl
theorem w4_211 : Cond.code yX1_knows cX1_knows 2 (some .boolean) ∈ gt := gt_in (tm4 _ (List.mem_of_getElem? (i := 211) rfl)) rfl
theorem w4_212 : Cond.methodLink RX11 250 yX1_gather ∈ gt := gt_in (tm4 _ (List.mem_of_getElem? (i := 212) rfl)) rfl
theorem w4_213 : Cond.instanceMethod yX1_gather ∈ gt := gt_in (tm4 _ (List.mem_of_getElem? (i := 213) rfl)) rfl
theorem w4_214 : Cond.selects RX1 yX1_gather yX1_gather ∈ gt := gt_in (tm4 _ (List.mem_of_getElem? (i := 214) rfl)) rfl
theorem w4_215 : Cond.code yX1_gather cX1_gather 3 none ∈ gt := gt_in (tm4 _ (List.mem_of_getElem? (i := 215) rfl)) rfl
theorem w4_216 : Cond.methodLink RX1 41 yX1_findStruck ∈ gt := gt_in (tm4 _ (List.mem_of_getElem? (i := 216) rfl)) rfl
theorem w4_218 : Cond.instanceMethod yX1_findStruck ∈ gt := gt_in (tm4 _ (List.mem_of_getElem? (i := 218) rfl)) rfl
theorem w4_219 : Cond.code yX1_findStruck cX1_findStruck 5 none ∈ gt := gt_in (tm4 _ (List.mem_of_getElem? (i := 219) rfl)) rfl
theorem w4_220 : Cond.methodLink RX1 51 Lib.Math.min.name ∈ gt := gt_in (tm4 _ (List.mem_of_getElem? (i := 220) rfl)) rfl
theorem w4_221 : Cond.methodLink RX11 253 yX2_weigh ∈ gt := gt_in (tm4 _ (List.mem_of_getElem? (i := 221) rfl)) rfl
theorem w4_222 : Cond.instanceMethod yX2_weigh ∈ gt := gt_in (tm4 _ (List.mem_of_getElem? (i := 222) rfl)) rfl
theorem w4_223 : Cond.selects RX2 yX2_weigh yX2_weigh ∈ gt := gt_in (tm4 _ (List.mem_of_getElem? (i := 223) rfl)) rfl
theorem w4_224 : Cond.code yX2_weigh cX2_weigh 4 none ∈ gt := gt_in (tm4 _ (List.mem_of_getElem? (i := 224) rfl)) rfl
theorem w4_225 : Cond.methodLink RX2 49 yX2_addBore ∈ gt := gt_in (tm4 _ (List.mem_of_getElem? (i := 225) rfl)) rfl
theorem w4_227 : Cond.instanceMethod yX2_addBore ∈ gt := gt_in (tm4 _ (List.mem_of_getElem? (i := 227) rfl)) rfl
theorem w4_228 : Cond.code yX2_addBore cX2_addBore 5 none ∈ gt := gt_in (tm4 _ (List.mem_of_getElem? (i := 228) rfl)) rfl
theorem w4_229 : Cond.methodLink RX2 68 yX6_likeness ∈ gt := gt_in (tm4 _ (List.mem_of_getElem? (i := 229) rfl)) rfl
theorem w4_230 : Cond.methodLink RX11 259 yX2_partsOf ∈ gt := gt_in (tm4 _ (List.mem_of_getElem? (i := 230) rfl)) rfl
theorem w4_231 : Cond.instanceMethod yX2_partsOf ∈ gt := gt_in (tm4 _ (List.mem_of_getElem? (i := 231) rfl)) rfl
theorem w4_232 : Cond.selects RX2 yX2_partsOf yX2_partsOf ∈ gt := gt_in (tm4 _ (List.mem_of_getElem? (i := 232) rfl)) rfl
theorem w4_233 : Cond.code yX2_partsOf cX2_partsOf 2 (some .int) ∈ gt := gt_in (tm4 _ (List.mem_of_getElem? (i := 233) rfl)) rfl
theorem w4_234 : Cond.methodLink RX11 266 yX2_doubt ∈ gt := gt_in (tm4 _ (List.mem_of_getElem? (i := 234) rfl)) rfl
theorem w4_235 : Cond.instanceMethod yX2_doubt ∈ gt := gt_in (tm4 _ (List.mem_of_getElem? (i := 235) rfl)) rfl
theorem w4_236 : Cond.selects RX2 yX2_doubt yX2_doubt ∈ gt := gt_in (tm4 _ (List.mem_of_getElem? (i := 236) rfl)) rfl
theorem w4_237 : Cond.code yX2_doubt cX2_doubt 1 (some .int) ∈ gt := gt_in (tm4 _ (List.mem_of_getElem? (i := 237) rfl)) rfl
theorem w4_238 : Cond.methodLink RX2 59 yX2_partsOf ∈ gt := gt_in (tm4 _ (List.mem_of_getElem? (i := 238) rfl)) rfl
theorem w4_239 : Cond.methodLink RL 98 yX11_leftOut ∈ gt := gt_in (tm4 _ (List.mem_of_getElem? (i := 239) rfl)) rfl
theorem w5_0 : Cond.instanceMethod yX11_leftOut ∈ gt := gt_in (tm5 _ (List.mem_of_getElem? (i := 0) rfl)) rfl
theorem w5_1 : Cond.selects RX11 yX11_leftOut yX11_leftOut ∈ gt := gt_in (tm5 _ (List.mem_of_getElem? (i := 1) rfl)) rfl
theorem w5_2 : Cond.code yX11_leftOut cX11_leftOut 3 (some .int) ∈ gt := gt_in (tm5 _ (List.mem_of_getElem? (i := 2) rfl)) rfl
theorem w5_3 : Cond.methodLink RX11 276 yX11_countRight ∈ gt := gt_in (tm5 _ (List.mem_of_getElem? (i := 3) rfl)) rfl
theorem w5_5 : Cond.instanceMethod yX11_countRight ∈ gt := gt_in (tm5 _ (List.mem_of_getElem? (i := 5) rfl)) rfl
theorem w5_6 : Cond.code yX11_countRight cX11_countRight 4 (some .int) ∈ gt := gt_in (tm5 _ (List.mem_of_getElem? (i := 6) rfl)) rfl
theorem w5_7 : Cond.methodLink RX11 279 yX11_sumSaid ∈ gt := gt_in (tm5 _ (List.mem_of_getElem? (i := 7) rfl)) rfl
theorem w5_9 : Cond.instanceMethod yX11_sumSaid ∈ gt := gt_in (tm5 _ (List.mem_of_getElem? (i := 9) rfl)) rfl
theorem w5_10 : Cond.code yX11_sumSaid cX11_sumSaid 3 (some .int) ∈ gt := gt_in (tm5 _ (List.mem_of_getElem? (i := 10) rfl)) rfl
theorem w5_11 : Cond.methodLink RL 102 yX11_draw ∈ gt := gt_in (tm5 _ (List.mem_of_getElem? (i := 11) rfl)) rfl
theorem w5_12 : Cond.instanceMethod yX11_draw ∈ gt := gt_in (tm5 _ (List.mem_of_getElem? (i := 12) rfl)) rfl
theorem w5_13 : Cond.selects RX11 yX11_draw yX11_draw ∈ gt := gt_in (tm5 _ (List.mem_of_getElem? (i := 13) rfl)) rfl
theorem w5_14 : Cond.code yX11_draw cX11_draw 5 (some .int) ∈ gt := gt_in (tm5 _ (List.mem_of_getElem? (i := 14) rfl)) rfl
theorem w5_15 : Cond.methodLink RX11 288 yX3_drawLine ∈ gt := gt_in (tm5 _ (List.mem_of_getElem? (i := 15) rfl)) rfl
theorem w5_16 : Cond.instanceMethod yX3_drawLine ∈ gt := gt_in (tm5 _ (List.mem_of_getElem? (i := 16) rfl)) rfl
theorem w5_17 : Cond.selects RX3 yX3_drawLine yX3_drawLine ∈ gt := gt_in (tm5 _ (List.mem_of_getElem? (i := 17) rfl)) rfl
theorem w5_18 : Cond.code yX3_drawLine cX3_drawLine 9 (some .int) ∈ gt := gt_in (tm5 _ (List.mem_of_getElem? (i := 18) rfl)) rfl
theorem w5_19 : Cond.methodLink RX3 49 yX6_heightGap ∈ gt := gt_in (tm5 _ (List.mem_of_getElem? (i := 19) rfl)) rfl
theorem w5_20 : Cond.methodLink RX3 56 yX2_weigh ∈ gt := gt_in (tm5 _ (List.mem_of_getElem? (i := 20) rfl)) rfl
theorem w5_21 : Cond.methodLink RX3 65 yX2_partsOf ∈ gt := gt_in (tm5 _ (List.mem_of_getElem? (i := 21) rfl)) rfl
theorem w5_22 : Cond.methodLink RX3 69 yX3_followerOf ∈ gt := gt_in (tm5 _ (List.mem_of_getElem? (i := 22) rfl)) rfl
theorem w5_24 : Cond.instanceMethod yX3_followerOf ∈ gt := gt_in (tm5 _ (List.mem_of_getElem? (i := 24) rfl)) rfl
theorem w5_25 : Cond.code yX3_followerOf cX3_followerOf 5 (some .int) ∈ gt := gt_in (tm5 _ (List.mem_of_getElem? (i := 25) rfl)) rfl
theorem w5_26 : Cond.methodLink RX3 72 yX3_costBehind ∈ gt := gt_in (tm5 _ (List.mem_of_getElem? (i := 26) rfl)) rfl
theorem w5_28 : Cond.instanceMethod yX3_costBehind ∈ gt := gt_in (tm5 _ (List.mem_of_getElem? (i := 28) rfl)) rfl
theorem w5_29 : Cond.code yX3_costBehind cX3_costBehind 4 (some .int) ∈ gt := gt_in (tm5 _ (List.mem_of_getElem? (i := 29) rfl)) rfl
theorem w5_30 : Cond.methodLink RX3 76 yX3_chooseKinds ∈ gt := gt_in (tm5 _ (List.mem_of_getElem? (i := 30) rfl)) rfl
theorem w5_32 : Cond.instanceMethod yX3_chooseKinds ∈ gt := gt_in (tm5 _ (List.mem_of_getElem? (i := 32) rfl)) rfl
theorem w5_33 : Cond.code yX3_chooseKinds cX3_chooseKinds 4 (some .int) ∈ gt := gt_in (tm5 _ (List.mem_of_getElem? (i := 33) rfl)) rfl
theorem w5_34 : Cond.methodLink RL 107 yX11_drawn ∈ gt := gt_in (tm5 _ (List.mem_of_getElem? (i := 34) rfl)) rfl
theorem w5_35 : Cond.instanceMethod yX11_drawn ∈ gt := gt_in (tm5 _ (List.mem_of_getElem? (i := 35) rfl)) rfl
theorem w5_36 : Cond.selects RX11 yX11_drawn yX11_drawn ∈ gt := gt_in (tm5 _ (List.mem_of_getElem? (i := 36) rfl)) rfl
theorem w5_37 : Cond.code yX11_drawn cX11_drawn 2 (some .int) ∈ gt := gt_in (tm5 _ (List.mem_of_getElem? (i := 37) rfl)) rfl
theorem w5_38 : Cond.methodLink RL 111 yX11_plan ∈ gt := gt_in (tm5 _ (List.mem_of_getElem? (i := 38) rfl)) rfl
theorem w5_39 : Cond.instanceMethod yX11_plan ∈ gt := gt_in (tm5 _ (List.mem_of_getElem? (i := 39) rfl)) rfl
theorem w5_40 : Cond.selects RX11 yX11_plan yX11_plan ∈ gt := gt_in (tm5 _ (List.mem_of_getElem? (i := 40) rfl)) rfl
theorem w5_41 : Cond.code yX11_plan cX11_plan 5 (some .int) ∈ gt := gt_in (tm5 _ (List.mem_of_getElem? (i := 41) rfl)) rfl
theorem w5_42 : Cond.methodLink RX11 295 yX9_weighGains ∈ gt := gt_in (tm5 _ (List.mem_of_getElem? (i := 42) rfl)) rfl
theorem w5_43 : Cond.instanceMethod yX9_weighGains ∈ gt := gt_in (tm5 _ (List.mem_of_getElem? (i := 43) rfl)) rfl
theorem w5_44 : Cond.selects RX9 yX9_weighGains yX9_weighGains ∈ gt := gt_in (tm5 _ (List.mem_of_getElem? (i := 44) rfl)) rfl
theorem w5_45 : Cond.code yX9_weighGains cX9_weighGains 4 none ∈ gt := gt_in (tm5 _ (List.mem_of_getElem? (i := 45) rfl)) rfl
theorem w5_46 : Cond.methodLink RX9 39 yX2_weigh ∈ gt := gt_in (tm5 _ (List.mem_of_getElem? (i := 46) rfl)) rfl
theorem w5_47 : Cond.methodLink RX9 45 yX2_doubt ∈ gt := gt_in (tm5 _ (List.mem_of_getElem? (i := 47) rfl)) rfl
theorem w5_48 : Cond.methodLink RX9 70 Lib.Math.max.name ∈ gt := gt_in (tm5 _ (List.mem_of_getElem? (i := 48) rfl)) rfl
theorem w5_49 : Cond.methodLink RX11 299 yX9_findPlan ∈ gt := gt_in (tm5 _ (List.mem_of_getElem? (i := 49) rfl)) rfl
theorem w5_50 : Cond.instanceMethod yX9_findPlan ∈ gt := gt_in (tm5 _ (List.mem_of_getElem? (i := 50) rfl)) rfl
theorem w5_51 : Cond.selects RX9 yX9_findPlan yX9_findPlan ∈ gt := gt_in (tm5 _ (List.mem_of_getElem? (i := 51) rfl)) rfl
theorem w5_52 : Cond.code yX9_findPlan cX9_findPlan 5 (some .int) ∈ gt := gt_in (tm5 _ (List.mem_of_getElem? (i := 52) rfl)) rfl
theorem w5_53 : Cond.methodLink RX9 88 yX9_search ∈ gt := gt_in (tm5 _ (List.mem_of_getElem? (i := 53) rfl)) rfl
theorem w5_55 : Cond.instanceMethod yX9_search ∈ gt := gt_in (tm5 _ (List.mem_of_getElem? (i := 55) rfl)) rfl
theorem w5_56 : Cond.code yX9_search cX9_search 6 none ∈ gt := gt_in (tm5 _ (List.mem_of_getElem? (i := 56) rfl)) rfl
theorem w5_57 : Cond.methodLink RX9 95 yX9_keepFound ∈ gt := gt_in (tm5 _ (List.mem_of_getElem? (i := 57) rfl)) rfl
theorem w5_59 : Cond.instanceMethod yX9_keepFound ∈ gt := gt_in (tm5 _ (List.mem_of_getElem? (i := 59) rfl)) rfl
theorem w5_60 : Cond.code yX9_keepFound cX9_keepFound 4 none ∈ gt := gt_in (tm5 _ (List.mem_of_getElem? (i := 60) rfl)) rfl
theorem w5_61 : Cond.methodLink RX9 98 yX9_tryCell ∈ gt := gt_in (tm5 _ (List.mem_of_getElem? (i := 61) rfl)) rfl
theorem w5_63 : Cond.instanceMethod yX9_tryCell ∈ gt := gt_in (tm5 _ (List.mem_of_getElem? (i := 63) rfl)) rfl
theorem w5_64 : Cond.code yX9_tryCell cX9_tryCell 10 none ∈ gt := gt_in (tm5 _ (List.mem_of_getElem? (i := 64) rfl)) rfl
theorem w5_65 : Cond.methodLink RX9 102 yX6_steps ∈ gt := gt_in (tm5 _ (List.mem_of_getElem? (i := 65) rfl)) rfl
theorem w5_66 : Cond.instanceMethod yX6_steps ∈ gt := gt_in (tm5 _ (List.mem_of_getElem? (i := 66) rfl)) rfl
theorem w5_67 : Cond.selects RX6 yX6_steps yX6_steps ∈ gt := gt_in (tm5 _ (List.mem_of_getElem? (i := 67) rfl)) rfl
theorem w5_68 : Cond.code yX6_steps cX6_steps 3 (some .int) ∈ gt := gt_in (tm5 _ (List.mem_of_getElem? (i := 68) rfl)) rfl
theorem w5_69 : Cond.methodLink RX9 105 yX9_isBetter ∈ gt := gt_in (tm5 _ (List.mem_of_getElem? (i := 69) rfl)) rfl
theorem w5_71 : Cond.instanceMethod yX9_isBetter ∈ gt := gt_in (tm5 _ (List.mem_of_getElem? (i := 71) rfl)) rfl
theorem w5_72 : Cond.code yX9_isBetter cX9_isBetter 3 (some .boolean) ∈ gt := gt_in (tm5 _ (List.mem_of_getElem? (i := 72) rfl)) rfl
theorem w5_73 : Cond.methodLink RX9 109 yX9_isApart ∈ gt := gt_in (tm5 _ (List.mem_of_getElem? (i := 73) rfl)) rfl
theorem w5_75 : Cond.instanceMethod yX9_isApart ∈ gt := gt_in (tm5 _ (List.mem_of_getElem? (i := 75) rfl)) rfl
theorem w5_76 : Cond.code yX9_isApart cX9_isApart 4 (some .boolean) ∈ gt := gt_in (tm5 _ (List.mem_of_getElem? (i := 76) rfl)) rfl
theorem w5_77 : Cond.methodLink RX9 112 yX6_far ∈ gt := gt_in (tm5 _ (List.mem_of_getElem? (i := 77) rfl)) rfl
theorem w5_78 : Cond.methodLink RL 115 yX11_planned ∈ gt := gt_in (tm5 _ (List.mem_of_getElem? (i := 78) rfl)) rfl
theorem w5_79 : Cond.instanceMethod yX11_planned ∈ gt := gt_in (tm5 _ (List.mem_of_getElem? (i := 79) rfl)) rfl
theorem w5_80 : Cond.selects RX11 yX11_planned yX11_planned ∈ gt := gt_in (tm5 _ (List.mem_of_getElem? (i := 80) rfl)) rfl
theorem w5_81 : Cond.code yX11_planned cX11_planned 3 (some .int) ∈ gt := gt_in (tm5 _ (List.mem_of_getElem? (i := 81) rfl)) rfl
theorem w5_82 : Cond.methodLink RL 119 yX11_turned ∈ gt := gt_in (tm5 _ (List.mem_of_getElem? (i := 82) rfl)) rfl
theorem w5_83 : Cond.instanceMethod yX11_turned ∈ gt := gt_in (tm5 _ (List.mem_of_getElem? (i := 83) rfl)) rfl
theorem w5_84 : Cond.selects RX11 yX11_turned yX11_turned ∈ gt := gt_in (tm5 _ (List.mem_of_getElem? (i := 84) rfl)) rfl
theorem w5_85 : Cond.code yX11_turned cX11_turned 3 (some .int) ∈ gt := gt_in (tm5 _ (List.mem_of_getElem? (i := 85) rfl)) rfl
theorem w5_86 : Cond.methodLink RX11 310 yX8_tallyBores ∈ gt := gt_in (tm5 _ (List.mem_of_getElem? (i := 86) rfl)) rfl
theorem w5_87 : Cond.instanceMethod yX8_tallyBores ∈ gt := gt_in (tm5 _ (List.mem_of_getElem? (i := 87) rfl)) rfl
theorem w5_88 : Cond.selects RX8 yX8_tallyBores yX8_tallyBores ∈ gt := gt_in (tm5 _ (List.mem_of_getElem? (i := 88) rfl)) rfl
theorem w5_89 : Cond.code yX8_tallyBores cX8_tallyBores 4 none ∈ gt := gt_in (tm5 _ (List.mem_of_getElem? (i := 89) rfl)) rfl
theorem w5_90 : Cond.methodLink RX8 58 yX8_mostTold ∈ gt := gt_in (tm5 _ (List.mem_of_getElem? (i := 90) rfl)) rfl
theorem w5_92 : Cond.instanceMethod yX8_mostTold ∈ gt := gt_in (tm5 _ (List.mem_of_getElem? (i := 92) rfl)) rfl
theorem w5_93 : Cond.code yX8_mostTold cX8_mostTold 4 (some .int) ∈ gt := gt_in (tm5 _ (List.mem_of_getElem? (i := 93) rfl)) rfl
theorem w5_94 : Cond.methodLink RL 123 yX11_maps ∈ gt := gt_in (tm5 _ (List.mem_of_getElem? (i := 94) rfl)) rfl
theorem w5_95 : Cond.instanceMethod yX11_maps ∈ gt := gt_in (tm5 _ (List.mem_of_getElem? (i := 95) rfl)) rfl
theorem w5_96 : Cond.selects RX11 yX11_maps yX11_maps ∈ gt := gt_in (tm5 _ (List.mem_of_getElem? (i := 96) rfl)) rfl
theorem w5_97 : Cond.code yX11_maps cX11_maps 3 (some .int) ∈ gt := gt_in (tm5 _ (List.mem_of_getElem? (i := 97) rfl)) rfl
theorem w5_98 : Cond.methodLink RX11 319 yX8_countAgreeing ∈ gt := gt_in (tm5 _ (List.mem_of_getElem? (i := 98) rfl)) rfl
theorem w5_99 : Cond.instanceMethod yX8_countAgreeing ∈ gt := gt_in (tm5 _ (List.mem_of_getElem? (i := 99) rfl)) rfl
theorem w5_100 : Cond.selects RX8 yX8_countAgreeing yX8_countAgreeing ∈ gt := gt_in (tm5 _ (List.mem_of_getElem? (i := 100) rfl)) rfl
theorem w5_101 : Cond.code yX8_countAgreeing cX8_countAgreeing 4 (some .int) ∈ gt := gt_in (tm5 _ (List.mem_of_getElem? (i := 101) rfl)) rfl
theorem w5_102 : Cond.methodLink RX8 65 yX8_turnedAt ∈ gt := gt_in (tm5 _ (List.mem_of_getElem? (i := 102) rfl)) rfl
theorem w5_104 : Cond.instanceMethod yX8_turnedAt ∈ gt := gt_in (tm5 _ (List.mem_of_getElem? (i := 104) rfl)) rfl
theorem w5_105 : Cond.code yX8_turnedAt cX8_turnedAt 3 (some .int) ∈ gt := gt_in (tm5 _ (List.mem_of_getElem? (i := 105) rfl)) rfl
theorem w5_106 : Cond.methodLink RX8 68 yX8_bestAt ∈ gt := gt_in (tm5 _ (List.mem_of_getElem? (i := 106) rfl)) rfl
theorem w5_108 : Cond.instanceMethod yX8_bestAt ∈ gt := gt_in (tm5 _ (List.mem_of_getElem? (i := 108) rfl)) rfl
theorem w5_109 : Cond.code yX8_bestAt cX8_bestAt 2 (some .int) ∈ gt := gt_in (tm5 _ (List.mem_of_getElem? (i := 109) rfl)) rfl
theorem w5_110 : Cond.methodLink RX8 77 yX2_weigh ∈ gt := gt_in (tm5 _ (List.mem_of_getElem? (i := 110) rfl)) rfl
theorem w5_111 : Cond.methodLink RX11 322 yX8_seamOfOld ∈ gt := gt_in (tm5 _ (List.mem_of_getElem? (i := 111) rfl)) rfl
theorem w5_112 : Cond.instanceMethod yX8_seamOfOld ∈ gt := gt_in (tm5 _ (List.mem_of_getElem? (i := 112) rfl)) rfl
theorem w5_113 : Cond.selects RX8 yX8_seamOfOld yX8_seamOfOld ∈ gt := gt_in (tm5 _ (List.mem_of_getElem? (i := 113) rfl)) rfl
theorem w5_114 : Cond.code yX8_seamOfOld cX8_seamOfOld 6 (some .int) ∈ gt := gt_in (tm5 _ (List.mem_of_getElem? (i := 114) rfl)) rfl
theorem w5_115 : Cond.methodLink RX11 325 yX8_seamOfBest ∈ gt := gt_in (tm5 _ (List.mem_of_getElem? (i := 115) rfl)) rfl
theorem w5_116 : Cond.instanceMethod yX8_seamOfBest ∈ gt := gt_in (tm5 _ (List.mem_of_getElem? (i := 116) rfl)) rfl
theorem w5_117 : Cond.selects RX8 yX8_seamOfBest yX8_seamOfBest ∈ gt := gt_in (tm5 _ (List.mem_of_getElem? (i := 117) rfl)) rfl
theorem w5_118 : Cond.code yX8_seamOfBest cX8_seamOfBest 4 (some .int) ∈ gt := gt_in (tm5 _ (List.mem_of_getElem? (i := 118) rfl)) rfl
theorem w5_119 : Cond.methodLink RL 127 yX11_worth ∈ gt := gt_in (tm5 _ (List.mem_of_getElem? (i := 119) rfl)) rfl
theorem w5_120 : Cond.instanceMethod yX11_worth ∈ gt := gt_in (tm5 _ (List.mem_of_getElem? (i := 120) rfl)) rfl
theorem w5_121 : Cond.selects RX11 yX11_worth yX11_worth ∈ gt := gt_in (tm5 _ (List.mem_of_getElem? (i := 121) rfl)) rfl
theorem w5_122 : Cond.code yX11_worth cX11_worth 5 (some .int) ∈ gt := gt_in (tm5 _ (List.mem_of_getElem? (i := 122) rfl)) rfl
theorem w5_123 : Cond.methodLink RX11 330 yX11_fairValue ∈ gt := gt_in (tm5 _ (List.mem_of_getElem? (i := 123) rfl)) rfl
theorem w5_125 : Cond.instanceMethod yX11_fairValue ∈ gt := gt_in (tm5 _ (List.mem_of_getElem? (i := 125) rfl)) rfl
theorem w5_126 : Cond.code yX11_fairValue cX11_fairValue 4 (some .int) ∈ gt := gt_in (tm5 _ (List.mem_of_getElem? (i := 126) rfl)) rfl
theorem w5_127 : Cond.methodLink RX11 333 yX11_isUnsure ∈ gt := gt_in (tm5 _ (List.mem_of_getElem? (i := 127) rfl)) rfl
theorem w5_129 : Cond.instanceMethod yX11_isUnsure ∈ gt := gt_in (tm5 _ (List.mem_of_getElem? (i := 129) rfl)) rfl
theorem w5_130 : Cond.code yX11_isUnsure cX11_isUnsure 3 (some .boolean) ∈ gt := gt_in (tm5 _ (List.mem_of_getElem? (i := 130) rfl)) rfl
theorem w5_131 : Cond.methodLink RL 131 yX11_hands ∈ gt := gt_in (tm5 _ (List.mem_of_getElem? (i := 131) rfl)) rfl
theorem w5_132 : Cond.instanceMethod yX11_hands ∈ gt := gt_in (tm5 _ (List.mem_of_getElem? (i := 132) rfl)) rfl
theorem w5_133 : Cond.selects RX11 yX11_hands yX11_hands ∈ gt := gt_in (tm5 _ (List.mem_of_getElem? (i := 133) rfl)) rfl
theorem w5_134 : Cond.code yX11_hands cX11_hands 4 (some .int) ∈ gt := gt_in (tm5 _ (List.mem_of_getElem? (i := 134) rfl)) rfl
theorem w5_135 : Cond.constant RX11 336 (-1000000 : Int32) ∈ gt := gt_in (tm5 _ (List.mem_of_getElem? (i := 135) rfl)) rfl
theorem w5_136 : Cond.methodLink RX11 337 yX0_compare ∈ gt := gt_in (tm5 _ (List.mem_of_getElem? (i := 136) rfl)) rfl
theorem w5_137 : Cond.instanceMethod yX0_compare ∈ gt := gt_in (tm5 _ (List.mem_of_getElem? (i := 137) rfl)) rfl
theorem w5_138 : Cond.selects RX0 yX0_compare yX0_compare ∈ gt := gt_in (tm5 _ (List.mem_of_getElem? (i := 138) rfl)) rfl
theorem w5_139 : Cond.code yX0_compare cX0_compare 4 none ∈ gt := gt_in (tm5 _ (List.mem_of_getElem? (i := 139) rfl)) rfl
theorem w5_140 : Cond.methodLink RX0 28 yX0_findLatest ∈ gt := gt_in (tm5 _ (List.mem_of_getElem? (i := 140) rfl)) rfl
theorem w5_142 : Cond.instanceMethod yX0_findLatest ∈ gt := gt_in (tm5 _ (List.mem_of_getElem? (i := 142) rfl)) rfl
theorem w5_143 : Cond.code yX0_findLatest cX0_findLatest 5 none ∈ gt := gt_in (tm5 _ (List.mem_of_getElem? (i := 143) rfl)) rfl
theorem w5_144 : Cond.methodLink RX0 32 yX0_countCells ∈ gt := gt_in (tm5 _ (List.mem_of_getElem? (i := 144) rfl)) rfl
theorem w5_146 : Cond.instanceMethod yX0_countCells ∈ gt := gt_in (tm5 _ (List.mem_of_getElem? (i := 146) rfl)) rfl
theorem w5_147 : Cond.code yX0_countCells cX0_countCells 4 none ∈ gt := gt_in (tm5 _ (List.mem_of_getElem? (i := 147) rfl)) rfl
theorem w5_148 : Cond.methodLink RX0 45 yX0_greatestDivisor ∈ gt := gt_in (tm5 _ (List.mem_of_getElem? (i := 148) rfl)) rfl
theorem w5_149 : Cond.static yX0_greatestDivisor ∈ gt := gt_in (tm5 _ (List.mem_of_getElem? (i := 149) rfl)) rfl
theorem w5_150 : Cond.code yX0_greatestDivisor cX0_greatestDivisor 6 (some .int) ∈ gt := gt_in (tm5 _ (List.mem_of_getElem? (i := 150) rfl)) rfl
theorem w5_151 : Cond.methodLink RX0 78 Lib.Math.abs.name ∈ gt := gt_in (tm5 _ (List.mem_of_getElem? (i := 151) rfl)) rfl
theorem w5_152 : Cond.methodLink RL 135 yX11_count ∈ gt := gt_in (tm5 _ (List.mem_of_getElem? (i := 152) rfl)) rfl
theorem w5_153 : Cond.instanceMethod yX11_count ∈ gt := gt_in (tm5 _ (List.mem_of_getElem? (i := 153) rfl)) rfl
theorem w5_154 : Cond.selects RX11 yX11_count yX11_count ∈ gt := gt_in (tm5 _ (List.mem_of_getElem? (i := 154) rfl)) rfl
theorem w5_155 : Cond.code yX11_count cX11_count 2 (some .int) ∈ gt := gt_in (tm5 _ (List.mem_of_getElem? (i := 155) rfl)) rfl
theorem w5_156 : Cond.methodLink RL 79 yL_look ∈ gt := gt_in (tm5 _ (List.mem_of_getElem? (i := 156) rfl)) rfl
theorem w5_157 : Cond.static yL_look ∈ gt := gt_in (tm5 _ (List.mem_of_getElem? (i := 157) rfl)) rfl
theorem w5_161 : Cond.methodLink RL 7 yX11_look ∈ gt := gt_in (tm5 _ (List.mem_of_getElem? (i := 161) rfl)) rfl
theorem w5_162 : Cond.instanceMethod yX11_look ∈ gt := gt_in (tm5 _ (List.mem_of_getElem? (i := 162) rfl)) rfl
theorem w5_163 : Cond.selects RX11 yX11_look yX11_look ∈ gt := gt_in (tm5 _ (List.mem_of_getElem? (i := 163) rfl)) rfl
theorem w5_164 : Cond.code yX11_look cX11_look 3 (some .int) ∈ gt := gt_in (tm5 _ (List.mem_of_getElem? (i := 164) rfl)) rfl
theorem w6_9 : Cond.methodLink RL 20 yX12_init ∈ gt := gt_in (tm6 _ (List.mem_of_getElem? (i := 9) rfl)) rfl
theorem w6_10 : Cond.instanceMethod yX12_init ∈ gt := gt_in (tm6 _ (List.mem_of_getElem? (i := 10) rfl)) rfl
theorem w6_11 : Cond.code yX12_init cX12_init 1 none ∈ gt := gt_in (tm6 _ (List.mem_of_getElem? (i := 11) rfl)) rfl
theorem w6_13 : Cond.methodLink RX12 168 yX12_bare ∈ gt := gt_in (tm6 _ (List.mem_of_getElem? (i := 13) rfl)) rfl
theorem w6_15 : Cond.instanceMethod yX12_bare ∈ gt := gt_in (tm6 _ (List.mem_of_getElem? (i := 15) rfl)) rfl
theorem w6_16 : Cond.code yX12_bare cX12_bare 2 none ∈ gt := gt_in (tm6 _ (List.mem_of_getElem? (i := 16) rfl)) rfl
theorem w6_17 : Cond.fieldLink RX12 7 RX12 "tape" "[I" ∈ gt := gt_in (tm6 _ (List.mem_of_getElem? (i := 17) rfl)) rfl
theorem w6_18 : Cond.fieldLink RX12 177 RX12 "tapeSize" "I" ∈ gt := gt_in (tm6 _ (List.mem_of_getElem? (i := 18) rfl)) rfl
theorem w6_19 : Cond.fieldLink RX12 171 RX12 "thrown" "I" ∈ gt := gt_in (tm6 _ (List.mem_of_getElem? (i := 19) rfl)) rfl
theorem w6_20 : Cond.fieldLink RX12 13 RX12 "wide" "I" ∈ gt := gt_in (tm6 _ (List.mem_of_getElem? (i := 20) rfl)) rfl
theorem w6_21 : Cond.fieldLink RX12 17 RX12 "tall" "I" ∈ gt := gt_in (tm6 _ (List.mem_of_getElem? (i := 21) rfl)) rfl
theorem w6_22 : Cond.fieldLink RX12 20 RX12 "height" "[I" ∈ gt := gt_in (tm6 _ (List.mem_of_getElem? (i := 22) rfl)) rfl
theorem w6_23 : Cond.fieldLink RX12 23 RX12 "rock" "[I" ∈ gt := gt_in (tm6 _ (List.mem_of_getElem? (i := 23) rfl)) rfl
theorem w6_24 : Cond.fieldLink RX12 26 RX12 "felt" "[I" ∈ gt := gt_in (tm6 _ (List.mem_of_getElem? (i := 24) rfl)) rfl
theorem w6_25 : Cond.fieldLink RX12 29 RX12 "worthOf" "[I" ∈ gt := gt_in (tm6 _ (List.mem_of_getElem? (i := 25) rfl)) rfl
theorem w6_26 : Cond.fieldLink RX12 32 RX12 "oldOf" "[I" ∈ gt := gt_in (tm6 _ (List.mem_of_getElem? (i := 26) rfl)) rfl
theorem w6_27 : Cond.fieldLink RX12 35 RX12 "steepLow" "I" ∈ gt := gt_in (tm6 _ (List.mem_of_getElem? (i := 27) rfl)) rfl
theorem w6_28 : Cond.fieldLink RX12 38 RX12 "steepHigh" "I" ∈ gt := gt_in (tm6 _ (List.mem_of_getElem? (i := 28) rfl)) rfl
theorem w6_29 : Cond.fieldLink RX12 41 RX12 "feltLow" "I" ∈ gt := gt_in (tm6 _ (List.mem_of_getElem? (i := 29) rfl)) rfl
theorem w6_30 : Cond.fieldLink RX12 44 RX12 "feltHigh" "I" ∈ gt := gt_in (tm6 _ (List.mem_of_getElem? (i := 30) rfl)) rfl
theorem w6_31 : Cond.fieldLink RX12 47 RX12 "border" "I" ∈ gt := gt_in (tm6 _ (List.mem_of_getElem? (i := 31) rfl)) rfl
theorem w6_32 : Cond.fieldLink RX12 50 RX12 "bend" "I" ∈ gt := gt_in (tm6 _ (List.mem_of_getElem? (i := 32) rfl)) rfl
theorem w6_33 : Cond.fieldLink RX12 53 RX12 "words" "[I" ∈ gt := gt_in (tm6 _ (List.mem_of_getElem? (i := 33) rfl)) rfl
theorem w6_34 : Cond.fieldLink RX12 184 RX12 "fault" "I" ∈ gt := gt_in (tm6 _ (List.mem_of_getElem? (i := 34) rfl)) rfl
theorem w6_35 : Cond.fieldLink RX12 56 RX12 "faultPlace" "I" ∈ gt := gt_in (tm6 _ (List.mem_of_getElem? (i := 35) rfl)) rfl
theorem w6_36 : Cond.fieldLink RX12 190 RX12 "stop" "I" ∈ gt := gt_in (tm6 _ (List.mem_of_getElem? (i := 36) rfl)) rfl
theorem w6_37 : Cond.fieldLink RX12 193 RX12 "next" "I" ∈ gt := gt_in (tm6 _ (List.mem_of_getElem? (i := 37) rfl)) rfl
theorem w6_38 : Cond.fieldLink RX12 199 RX12 "kind" "I" ∈ gt := gt_in (tm6 _ (List.mem_of_getElem? (i := 38) rfl)) rfl
theorem w6_39 : Cond.fieldLink RX12 209 RX12 "which" "I" ∈ gt := gt_in (tm6 _ (List.mem_of_getElem? (i := 39) rfl)) rfl
theorem w6_40 : Cond.fieldLink RX12 187 RX12 "place" "I" ∈ gt := gt_in (tm6 _ (List.mem_of_getElem? (i := 40) rfl)) rfl
theorem w6_41 : Cond.fieldLink RX12 219 RX12 "placeEnd" "I" ∈ gt := gt_in (tm6 _ (List.mem_of_getElem? (i := 41) rfl)) rfl
theorem w6_42 : Cond.fieldLink RX12 225 RX12 "read" "I" ∈ gt := gt_in (tm6 _ (List.mem_of_getElem? (i := 42) rfl)) rfl
theorem w6_43 : Cond.fieldLink RX12 174 RX12 "notes" "I" ∈ gt := gt_in (tm6 _ (List.mem_of_getElem? (i := 43) rfl)) rfl
theorem w6_44 : Cond.fieldLink RX12 59 RX12 "struck" "[I" ∈ gt := gt_in (tm6 _ (List.mem_of_getElem? (i := 44) rfl)) rfl
theorem w6_45 : Cond.fieldLink RX12 62 RX12 "hand" "[I" ∈ gt := gt_in (tm6 _ (List.mem_of_getElem? (i := 45) rfl)) rfl
theorem w6_46 : Cond.fieldLink RX12 65 RX12 "where" "[I" ∈ gt := gt_in (tm6 _ (List.mem_of_getElem? (i := 46) rfl)) rfl
theorem w6_47 : Cond.fieldLink RX12 68 RX12 "layers" "[I" ∈ gt := gt_in (tm6 _ (List.mem_of_getElem? (i := 47) rfl)) rfl
theorem w6_48 : Cond.fieldLink RX12 71 RX12 "layer" "[I" ∈ gt := gt_in (tm6 _ (List.mem_of_getElem? (i := 48) rfl)) rfl
theorem w6_49 : Cond.fieldLink RX12 74 RX12 "counts" "[Z" ∈ gt := gt_in (tm6 _ (List.mem_of_getElem? (i := 49) rfl)) rfl
theorem w6_50 : Cond.fieldLink RX12 330 RX12 "kinds" "I" ∈ gt := gt_in (tm6 _ (List.mem_of_getElem? (i := 50) rfl)) rfl
theorem w6_51 : Cond.fieldLink RX12 333 RX12 "lines" "I" ∈ gt := gt_in (tm6 _ (List.mem_of_getElem? (i := 51) rfl)) rfl
theorem w6_52 : Cond.fieldLink RX12 336 RX12 "knots" "I" ∈ gt := gt_in (tm6 _ (List.mem_of_getElem? (i := 52) rfl)) rfl
theorem w6_53 : Cond.fieldLink RX12 315 RX12 "kindsRead" "I" ∈ gt := gt_in (tm6 _ (List.mem_of_getElem? (i := 53) rfl)) rfl
theorem w6_54 : Cond.fieldLink RX12 318 RX12 "linesRead" "I" ∈ gt := gt_in (tm6 _ (List.mem_of_getElem? (i := 54) rfl)) rfl
theorem w6_55 : Cond.fieldLink RX12 254 RX12 "knotsRead" "I" ∈ gt := gt_in (tm6 _ (List.mem_of_getElem? (i := 55) rfl)) rfl
theorem w6_56 : Cond.fieldLink RX12 78 RX12 "name" "[I" ∈ gt := gt_in (tm6 _ (List.mem_of_getElem? (i := 56) rfl)) rfl
theorem w6_57 : Cond.fieldLink RX12 81 RX12 "nameSize" "[I" ∈ gt := gt_in (tm6 _ (List.mem_of_getElem? (i := 57) rfl)) rfl
theorem w6_58 : Cond.fieldLink RX12 84 RX12 "lineKind" "[I" ∈ gt := gt_in (tm6 _ (List.mem_of_getElem? (i := 58) rfl)) rfl
theorem w6_59 : Cond.fieldLink RX12 87 RX12 "lineFirst" "[I" ∈ gt := gt_in (tm6 _ (List.mem_of_getElem? (i := 59) rfl)) rfl
theorem w6_60 : Cond.fieldLink RX12 90 RX12 "lineMany" "[I" ∈ gt := gt_in (tm6 _ (List.mem_of_getElem? (i := 60) rfl)) rfl
theorem w6_61 : Cond.fieldLink RX12 93 RX12 "knot" "[I" ∈ gt := gt_in (tm6 _ (List.mem_of_getElem? (i := 61) rfl)) rfl
theorem w6_62 : Cond.fieldLink RX12 96 RX12 "sign" "[I" ∈ gt := gt_in (tm6 _ (List.mem_of_getElem? (i := 62) rfl)) rfl
theorem w6_63 : Cond.fieldLink RX12 99 RX12 "amount" "[I" ∈ gt := gt_in (tm6 _ (List.mem_of_getElem? (i := 63) rfl)) rfl
theorem w6_64 : Cond.fieldLink RX12 102 RX12 "left" "[I" ∈ gt := gt_in (tm6 _ (List.mem_of_getElem? (i := 64) rfl)) rfl
theorem w6_65 : Cond.fieldLink RX12 105 RX12 "right" "[I" ∈ gt := gt_in (tm6 _ (List.mem_of_getElem? (i := 65) rfl)) rfl
theorem w6_66 : Cond.fieldLink RX12 108 RX12 "order" "[I" ∈ gt := gt_in (tm6 _ (List.mem_of_getElem? (i := 66) rfl)) rfl
theorem w6_67 : Cond.fieldLink RX12 260 RX12 "orders" "I" ∈ gt := gt_in (tm6 _ (List.mem_of_getElem? (i := 67) rfl)) rfl
theorem w6_68 : Cond.fieldLink RX12 111 RX12 "wait" "[I" ∈ gt := gt_in (tm6 _ (List.mem_of_getElem? (i := 68) rfl)) rfl
theorem w6_69 : Cond.fieldLink RX12 114 RX12 "waitOf" "[I" ∈ gt := gt_in (tm6 _ (List.mem_of_getElem? (i := 69) rfl)) rfl
theorem w6_70 : Cond.fieldLink RX12 266 RX12 "waits" "I" ∈ gt := gt_in (tm6 _ (List.mem_of_getElem? (i := 70) rfl)) rfl
theorem w6_71 : Cond.fieldLink RX12 117 RX12 "held" "[I" ∈ gt := gt_in (tm6 _ (List.mem_of_getElem? (i := 71) rfl)) rfl
theorem w6_72 : Cond.fieldLink RX12 257 RX12 "helds" "I" ∈ gt := gt_in (tm6 _ (List.mem_of_getElem? (i := 72) rfl)) rfl
theorem w6_73 : Cond.fieldLink RX12 279 RX12 "open" "I" ∈ gt := gt_in (tm6 _ (List.mem_of_getElem? (i := 73) rfl)) rfl
theorem w6_74 : Cond.fieldLink RX12 290 RX12 "inLayer" "Z" ∈ gt := gt_in (tm6 _ (List.mem_of_getElem? (i := 74) rfl)) rfl
theorem w6_75 : Cond.fieldLink RX12 300 RX12 "wantsValue" "Z" ∈ gt := gt_in (tm6 _ (List.mem_of_getElem? (i := 75) rfl)) rfl
theorem w6_76 : Cond.fieldLink RX12 120 RX12 "worked" "[I" ∈ gt := gt_in (tm6 _ (List.mem_of_getElem? (i := 76) rfl)) rfl
theorem w6_77 : Cond.fieldLink RX12 123 RX12 "ofLayers" "[Z" ∈ gt := gt_in (tm6 _ (List.mem_of_getElem? (i := 77) rfl)) rfl
theorem w6_78 : Cond.fieldLink RX12 126 RX12 "reads" "[I" ∈ gt := gt_in (tm6 _ (List.mem_of_getElem? (i := 78) rfl)) rfl
theorem w6_79 : Cond.fieldLink RX12 129 RX12 "value" "[I" ∈ gt := gt_in (tm6 _ (List.mem_of_getElem? (i := 79) rfl)) rfl
theorem w6_80 : Cond.fieldLink RX12 132 RX12 "row" "[I" ∈ gt := gt_in (tm6 _ (List.mem_of_getElem? (i := 80) rfl)) rfl
theorem w6_81 : Cond.fieldLink RX12 135 RX12 "kindHere" "[I" ∈ gt := gt_in (tm6 _ (List.mem_of_getElem? (i := 81) rfl)) rfl
theorem w6_82 : Cond.fieldLink RX12 138 RX12 "weights" "[I" ∈ gt := gt_in (tm6 _ (List.mem_of_getElem? (i := 82) rfl)) rfl
theorem w6_83 : Cond.fieldLink RX12 380 RX12 "together" "I" ∈ gt := gt_in (tm6 _ (List.mem_of_getElem? (i := 83) rfl)) rfl
theorem w6_84 : Cond.fieldLink RX12 141 RX12 "from" "[I" ∈ gt := gt_in (tm6 _ (List.mem_of_getElem? (i := 84) rfl)) rfl
theorem w6_85 : Cond.fieldLink RX12 144 RX12 "own" "[I" ∈ gt := gt_in (tm6 _ (List.mem_of_getElem? (i := 85) rfl)) rfl
theorem w6_86 : Cond.fieldLink RX12 147 RX12 "cells" "[I" ∈ gt := gt_in (tm6 _ (List.mem_of_getElem? (i := 86) rfl)) rfl
theorem w6_87 : Cond.fieldLink RX12 404 RX12 "drawnMany" "I" ∈ gt := gt_in (tm6 _ (List.mem_of_getElem? (i := 87) rfl)) rfl
theorem w6_88 : Cond.fieldLink RX12 150 RX12 "drawnKind" "[I" ∈ gt := gt_in (tm6 _ (List.mem_of_getElem? (i := 88) rfl)) rfl
theorem w6_89 : Cond.fieldLink RX12 153 RX12 "gain" "[I" ∈ gt := gt_in (tm6 _ (List.mem_of_getElem? (i := 89) rfl)) rfl
theorem w6_90 : Cond.fieldLink RX12 156 RX12 "bored" "[Z" ∈ gt := gt_in (tm6 _ (List.mem_of_getElem? (i := 90) rfl)) rfl
theorem w6_91 : Cond.fieldLink RX12 413 RX12 "planMany" "I" ∈ gt := gt_in (tm6 _ (List.mem_of_getElem? (i := 91) rfl)) rfl
theorem w6_92 : Cond.fieldLink RX12 416 RX12 "planDays" "I" ∈ gt := gt_in (tm6 _ (List.mem_of_getElem? (i := 92) rfl)) rfl
theorem w6_93 : Cond.fieldLink RX12 159 RX12 "planCell" "[I" ∈ gt := gt_in (tm6 _ (List.mem_of_getElem? (i := 93) rfl)) rfl
theorem w6_94 : Cond.fieldLink RX12 407 RX12 "bestSum" "I" ∈ gt := gt_in (tm6 _ (List.mem_of_getElem? (i := 94) rfl)) rfl
theorem w6_95 : Cond.fieldLink RX12 410 RX12 "bestDays" "I" ∈ gt := gt_in (tm6 _ (List.mem_of_getElem? (i := 95) rfl)) rfl
theorem w6_96 : Cond.fieldLink RX12 162 RX12 "toldOne" "[I" ∈ gt := gt_in (tm6 _ (List.mem_of_getElem? (i := 96) rfl)) rfl
theorem w6_97 : Cond.fieldLink RX12 165 RX12 "toldOther" "[I" ∈ gt := gt_in (tm6 _ (List.mem_of_getElem? (i := 97) rfl)) rfl
theorem w7_21 : Cond.methodLink RL 85 yX12_thrown ∈ gt := gt_in (tm7 _ (List.mem_of_getElem? (i := 21) rfl)) rfl
theorem w7_22 : Cond.instanceMethod yX12_thrown ∈ gt := gt_in (tm7 _ (List.mem_of_getElem? (i := 22) rfl)) rfl
theorem w7_23 : Cond.selects RX12 yX12_thrown yX12_thrown ∈ gt := gt_in (tm7 _ (List.mem_of_getElem? (i := 23) rfl)) rfl
theorem w7_24 : Cond.code yX12_thrown cX12_thrown 1 (some .int) ∈ gt := gt_in (tm7 _ (List.mem_of_getElem? (i := 24) rfl)) rfl
theorem w7_25 : Cond.methodLink RL 25 yX12_feed ∈ gt := gt_in (tm7 _ (List.mem_of_getElem? (i := 25) rfl)) rfl
theorem w7_26 : Cond.instanceMethod yX12_feed ∈ gt := gt_in (tm7 _ (List.mem_of_getElem? (i := 26) rfl)) rfl
theorem w7_27 : Cond.selects RX12 yX12_feed yX12_feed ∈ gt := gt_in (tm7 _ (List.mem_of_getElem? (i := 27) rfl)) rfl
theorem w7_28 : Cond.code yX12_feed cX12_feed 8 (some .int) ∈ gt := gt_in (tm7 _ (List.mem_of_getElem? (i := 28) rfl)) rfl
theorem w7_29 : Cond.methodLink RL 48 yX12_land ∈ gt := gt_in (tm7 _ (List.mem_of_getElem? (i := 29) rfl)) rfl
theorem w7_30 : Cond.instanceMethod yX12_land ∈ gt := gt_in (tm7 _ (List.mem_of_getElem? (i := 30) rfl)) rfl
theorem w7_31 : Cond.selects RX12 yX12_land yX12_land ∈ gt := gt_in (tm7 _ (List.mem_of_getElem? (i := 31) rfl)) rfl
theorem w7_32 : Cond.code yX12_land cX12_land 3 (some .boolean) ∈ gt := gt_in (tm7 _ (List.mem_of_getElem? (i := 32) rfl)) rfl
theorem w7_33 : Cond.methodLink RL 53 yX12_ground ∈ gt := gt_in (tm7 _ (List.mem_of_getElem? (i := 33) rfl)) rfl
theorem w7_34 : Cond.instanceMethod yX12_ground ∈ gt := gt_in (tm7 _ (List.mem_of_getElem? (i := 34) rfl)) rfl
theorem w7_35 : Cond.selects RX12 yX12_ground yX12_ground ∈ gt := gt_in (tm7 _ (List.mem_of_getElem? (i := 35) rfl)) rfl
theorem w7_36 : Cond.code yX12_ground cX12_ground 4 (some .boolean) ∈ gt := gt_in (tm7 _ (List.mem_of_getElem? (i := 36) rfl)) rfl
theorem w7_37 : Cond.methodLink RX12 180 yX12_isCell ∈ gt := gt_in (tm7 _ (List.mem_of_getElem? (i := 37) rfl)) rfl
theorem w7_39 : Cond.instanceMethod yX12_isCell ∈ gt := gt_in (tm7 _ (List.mem_of_getElem? (i := 39) rfl)) rfl
theorem w7_40 : Cond.code yX12_isCell cX12_isCell 2 (some .boolean) ∈ gt := gt_in (tm7 _ (List.mem_of_getElem? (i := 40) rfl)) rfl
theorem w7_41 : Cond.methodLink RL 57 yX12_bounds ∈ gt := gt_in (tm7 _ (List.mem_of_getElem? (i := 41) rfl)) rfl
theorem w7_42 : Cond.instanceMethod yX12_bounds ∈ gt := gt_in (tm7 _ (List.mem_of_getElem? (i := 42) rfl)) rfl
theorem w7_43 : Cond.selects RX12 yX12_bounds yX12_bounds ∈ gt := gt_in (tm7 _ (List.mem_of_getElem? (i := 43) rfl)) rfl
theorem w7_44 : Cond.code yX12_bounds cX12_bounds 4 (some .boolean) ∈ gt := gt_in (tm7 _ (List.mem_of_getElem? (i := 44) rfl)) rfl
theorem w7_45 : Cond.methodLink RL 61 yX12_price ∈ gt := gt_in (tm7 _ (List.mem_of_getElem? (i := 45) rfl)) rfl
theorem w7_46 : Cond.instanceMethod yX12_price ∈ gt := gt_in (tm7 _ (List.mem_of_getElem? (i := 46) rfl)) rfl
theorem w7_47 : Cond.selects RX12 yX12_price yX12_price ∈ gt := gt_in (tm7 _ (List.mem_of_getElem? (i := 47) rfl)) rfl
theorem w7_48 : Cond.code yX12_price cX12_price 3 (some .boolean) ∈ gt := gt_in (tm7 _ (List.mem_of_getElem? (i := 48) rfl)) rfl
theorem w7_49 : Cond.methodLink RL 35 yX12_bore ∈ gt := gt_in (tm7 _ (List.mem_of_getElem? (i := 49) rfl)) rfl
theorem w7_50 : Cond.instanceMethod yX12_bore ∈ gt := gt_in (tm7 _ (List.mem_of_getElem? (i := 50) rfl)) rfl
theorem w7_51 : Cond.selects RX12 yX12_bore yX12_bore ∈ gt := gt_in (tm7 _ (List.mem_of_getElem? (i := 51) rfl)) rfl
theorem w7_52 : Cond.code yX12_bore cX12_bore 4 (some .int) ∈ gt := gt_in (tm7 _ (List.mem_of_getElem? (i := 52) rfl)) rfl
theorem w7_53 : Cond.methodLink RX12 243 yX12_begins ∈ gt := gt_in (tm7 _ (List.mem_of_getElem? (i := 53) rfl)) rfl
theorem w7_55 : Cond.instanceMethod yX12_begins ∈ gt := gt_in (tm7 _ (List.mem_of_getElem? (i := 55) rfl)) rfl
theorem w7_56 : Cond.code yX12_begins cX12_begins 2 none ∈ gt := gt_in (tm7 _ (List.mem_of_getElem? (i := 56) rfl)) rfl
theorem w7_57 : Cond.methodLink RX12 228 yX12_take ∈ gt := gt_in (tm7 _ (List.mem_of_getElem? (i := 57) rfl)) rfl
theorem w7_59 : Cond.instanceMethod yX12_take ∈ gt := gt_in (tm7 _ (List.mem_of_getElem? (i := 59) rfl)) rfl
theorem w7_60 : Cond.code yX12_take cX12_take 2 none ∈ gt := gt_in (tm7 _ (List.mem_of_getElem? (i := 60) rfl)) rfl
theorem w7_61 : Cond.methodLink RX12 202 yX12_isSmall ∈ gt := gt_in (tm7 _ (List.mem_of_getElem? (i := 61) rfl)) rfl
theorem w7_63 : Cond.instanceMethod yX12_isSmall ∈ gt := gt_in (tm7 _ (List.mem_of_getElem? (i := 63) rfl)) rfl
theorem w7_64 : Cond.code yX12_isSmall cX12_isSmall 2 (some .boolean) ∈ gt := gt_in (tm7 _ (List.mem_of_getElem? (i := 64) rfl)) rfl
theorem w7_65 : Cond.methodLink RX12 205 yX12_wordAt ∈ gt := gt_in (tm7 _ (List.mem_of_getElem? (i := 65) rfl)) rfl
theorem w7_67 : Cond.instanceMethod yX12_wordAt ∈ gt := gt_in (tm7 _ (List.mem_of_getElem? (i := 67) rfl)) rfl
theorem w7_68 : Cond.code yX12_wordAt cX12_wordAt 8 (some .int) ∈ gt := gt_in (tm7 _ (List.mem_of_getElem? (i := 68) rfl)) rfl
theorem w7_69 : Cond.methodLink RX12 212 yX12_isDigit ∈ gt := gt_in (tm7 _ (List.mem_of_getElem? (i := 69) rfl)) rfl
theorem w7_71 : Cond.instanceMethod yX12_isDigit ∈ gt := gt_in (tm7 _ (List.mem_of_getElem? (i := 71) rfl)) rfl
theorem w7_72 : Cond.code yX12_isDigit cX12_isDigit 2 (some .boolean) ∈ gt := gt_in (tm7 _ (List.mem_of_getElem? (i := 72) rfl)) rfl
theorem w7_73 : Cond.methodLink RX12 215 yX12_signOf ∈ gt := gt_in (tm7 _ (List.mem_of_getElem? (i := 73) rfl)) rfl
theorem w7_75 : Cond.instanceMethod yX12_signOf ∈ gt := gt_in (tm7 _ (List.mem_of_getElem? (i := 75) rfl)) rfl
theorem w7_76 : Cond.code yX12_signOf cX12_signOf 2 (some .int) ∈ gt := gt_in (tm7 _ (List.mem_of_getElem? (i := 76) rfl)) rfl
theorem w7_77 : Cond.methodLink RX12 196 yX12_isEqual ∈ gt := gt_in (tm7 _ (List.mem_of_getElem? (i := 77) rfl)) rfl
theorem w7_79 : Cond.instanceMethod yX12_isEqual ∈ gt := gt_in (tm7 _ (List.mem_of_getElem? (i := 79) rfl)) rfl
theorem w7_80 : Cond.code yX12_isEqual cX12_isEqual 2 (some .boolean) ∈ gt := gt_in (tm7 _ (List.mem_of_getElem? (i := 80) rfl)) rfl
theorem w7_81 : Cond.methodLink RX12 247 yX12_boreRead ∈ gt := gt_in (tm7 _ (List.mem_of_getElem? (i := 81) rfl)) rfl
theorem w7_83 : Cond.instanceMethod yX12_boreRead ∈ gt := gt_in (tm7 _ (List.mem_of_getElem? (i := 83) rfl)) rfl
theorem w7_84 : Cond.code yX12_boreRead cX12_boreRead 2 (some .boolean) ∈ gt := gt_in (tm7 _ (List.mem_of_getElem? (i := 84) rfl)) rfl
theorem w7_85 : Cond.methodLink RX12 240 yX12_layerRead ∈ gt := gt_in (tm7 _ (List.mem_of_getElem? (i := 85) rfl)) rfl
theorem w7_87 : Cond.instanceMethod yX12_layerRead ∈ gt := gt_in (tm7 _ (List.mem_of_getElem? (i := 87) rfl)) rfl
theorem w7_88 : Cond.code yX12_layerRead cX12_layerRead 3 (some .boolean) ∈ gt := gt_in (tm7 _ (List.mem_of_getElem? (i := 88) rfl)) rfl
theorem w7_89 : Cond.methodLink RX12 222 yX12_wrong ∈ gt := gt_in (tm7 _ (List.mem_of_getElem? (i := 89) rfl)) rfl
theorem w7_91 : Cond.instanceMethod yX12_wrong ∈ gt := gt_in (tm7 _ (List.mem_of_getElem? (i := 91) rfl)) rfl
theorem w7_92 : Cond.code yX12_wrong cX12_wrong 2 (some .boolean) ∈ gt := gt_in (tm7 _ (List.mem_of_getElem? (i := 92) rfl)) rfl
theorem w7_93 : Cond.methodLink RX12 231 yX12_isSign ∈ gt := gt_in (tm7 _ (List.mem_of_getElem? (i := 93) rfl)) rfl
theorem w7_95 : Cond.instanceMethod yX12_isSign ∈ gt := gt_in (tm7 _ (List.mem_of_getElem? (i := 95) rfl)) rfl
theorem w7_96 : Cond.code yX12_isSign cX12_isSign 2 (some .boolean) ∈ gt := gt_in (tm7 _ (List.mem_of_getElem? (i := 96) rfl)) rfl
theorem w7_97 : Cond.methodLink RX12 234 yX12_isWord ∈ gt := gt_in (tm7 _ (List.mem_of_getElem? (i := 97) rfl)) rfl
theorem w7_99 : Cond.instanceMethod yX12_isWord ∈ gt := gt_in (tm7 _ (List.mem_of_getElem? (i := 99) rfl)) rfl
theorem w7_100 : Cond.code yX12_isWord cX12_isWord 2 (some .boolean) ∈ gt := gt_in (tm7 _ (List.mem_of_getElem? (i := 100) rfl)) rfl
theorem w7_101 : Cond.methodLink RX12 237 yX12_number ∈ gt := gt_in (tm7 _ (List.mem_of_getElem? (i := 101) rfl)) rfl
theorem w7_103 : Cond.instanceMethod yX12_number ∈ gt := gt_in (tm7 _ (List.mem_of_getElem? (i := 103) rfl)) rfl
theorem w7_104 : Cond.code yX12_number cX12_number 2 (some .boolean) ∈ gt := gt_in (tm7 _ (List.mem_of_getElem? (i := 104) rfl)) rfl
theorem w7_105 : Cond.methodLink RL 39 yX12_fault ∈ gt := gt_in (tm7 _ (List.mem_of_getElem? (i := 105) rfl)) rfl
theorem w7_106 : Cond.instanceMethod yX12_fault ∈ gt := gt_in (tm7 _ (List.mem_of_getElem? (i := 106) rfl)) rfl
theorem w7_107 : Cond.selects RX12 yX12_fault yX12_fault ∈ gt := gt_in (tm7 _ (List.mem_of_getElem? (i := 107) rfl)) rfl
theorem w7_108 : Cond.code yX12_fault cX12_fault 2 (some .int) ∈ gt := gt_in (tm7 _ (List.mem_of_getElem? (i := 108) rfl)) rfl
theorem w7_109 : Cond.methodLink RL 43 yX12_strike ∈ gt := gt_in (tm7 _ (List.mem_of_getElem? (i := 109) rfl)) rfl
theorem w7_110 : Cond.instanceMethod yX12_strike ∈ gt := gt_in (tm7 _ (List.mem_of_getElem? (i := 110) rfl)) rfl
theorem w7_111 : Cond.selects RX12 yX12_strike yX12_strike ∈ gt := gt_in (tm7 _ (List.mem_of_getElem? (i := 111) rfl)) rfl
theorem w7_112 : Cond.code yX12_strike cX12_strike 2 (some .int) ∈ gt := gt_in (tm7 _ (List.mem_of_getElem? (i := 112) rfl)) rfl
theorem w7_113 : Cond.methodLink RL 74 yX12_layer ∈ gt := gt_in (tm7 _ (List.mem_of_getElem? (i := 113) rfl)) rfl
theorem w7_114 : Cond.instanceMethod yX12_layer ∈ gt := gt_in (tm7 _ (List.mem_of_getElem? (i := 114) rfl)) rfl
theorem w7_115 : Cond.selects RX12 yX12_layer yX12_layer ∈ gt := gt_in (tm7 _ (List.mem_of_getElem? (i := 115) rfl)) rfl
theorem w7_116 : Cond.code yX12_layer cX12_layer 4 (some .int) ∈ gt := gt_in (tm7 _ (List.mem_of_getElem? (i := 116) rfl)) rfl
theorem w7_117 : Cond.methodLink RX12 251 yX12_isBore ∈ gt := gt_in (tm7 _ (List.mem_of_getElem? (i := 117) rfl)) rfl
theorem w7_119 : Cond.instanceMethod yX12_isBore ∈ gt := gt_in (tm7 _ (List.mem_of_getElem? (i := 119) rfl)) rfl
theorem w7_120 : Cond.code yX12_isBore cX12_isBore 2 (some .boolean) ∈ gt := gt_in (tm7 _ (List.mem_of_getElem? (i := 120) rfl)) rfl
theorem w7_121 : Cond.methodLink RL 30 yX12_key ∈ gt := gt_in (tm7 _ (List.mem_of_getElem? (i := 121) rfl)) rfl
theorem w7_122 : Cond.instanceMethod yX12_key ∈ gt := gt_in (tm7 _ (List.mem_of_getElem? (i := 122) rfl)) rfl
theorem w7_123 : Cond.selects RX12 yX12_key yX12_key ∈ gt := gt_in (tm7 _ (List.mem_of_getElem? (i := 123) rfl)) rfl
theorem w7_124 : Cond.code yX12_key cX12_key 5 (some .int) ∈ gt := gt_in (tm7 _ (List.mem_of_getElem? (i := 124) rfl)) rfl
theorem w7_125 : Cond.methodLink RX12 327 yX12_lineRead ∈ gt := gt_in (tm7 _ (List.mem_of_getElem? (i := 125) rfl)) rfl
theorem w7_127 : Cond.instanceMethod yX12_lineRead ∈ gt := gt_in (tm7 _ (List.mem_of_getElem? (i := 127) rfl)) rfl
theorem w7_128 : Cond.code yX12_lineRead cX12_lineRead 3 (some .boolean) ∈ gt := gt_in (tm7 _ (List.mem_of_getElem? (i := 128) rfl)) rfl
theorem w7_129 : Cond.methodLink RX12 321 yX12_kindAt ∈ gt := gt_in (tm7 _ (List.mem_of_getElem? (i := 129) rfl)) rfl
theorem w7_131 : Cond.instanceMethod yX12_kindAt ∈ gt := gt_in (tm7 _ (List.mem_of_getElem? (i := 131) rfl)) rfl
theorem w7_132 : Cond.code yX12_kindAt cX12_kindAt 4 (some .int) ∈ gt := gt_in (tm7 _ (List.mem_of_getElem? (i := 132) rfl)) rfl
theorem w7_133 : Cond.methodLink RX12 324 yX12_expression ∈ gt := gt_in (tm7 _ (List.mem_of_getElem? (i := 133) rfl)) rfl
theorem w7_135 : Cond.instanceMethod yX12_expression ∈ gt := gt_in (tm7 _ (List.mem_of_getElem? (i := 135) rfl)) rfl
theorem w7_136 : Cond.code yX12_expression cX12_expression 2 (some .boolean) ∈ gt := gt_in (tm7 _ (List.mem_of_getElem? (i := 136) rfl)) rfl
theorem w7_137 : Cond.methodLink RX12 306 yX12_valueRead ∈ gt := gt_in (tm7 _ (List.mem_of_getElem? (i := 137) rfl)) rfl
theorem w7_139 : Cond.instanceMethod yX12_valueRead ∈ gt := gt_in (tm7 _ (List.mem_of_getElem? (i := 139) rfl)) rfl
theorem w7_140 : Cond.code yX12_valueRead cX12_valueRead 4 (some .boolean) ∈ gt := gt_in (tm7 _ (List.mem_of_getElem? (i := 140) rfl)) rfl
theorem w7_141 : Cond.methodLink RX12 286 yX12_opens ∈ gt := gt_in (tm7 _ (List.mem_of_getElem? (i := 141) rfl)) rfl
theorem w7_143 : Cond.instanceMethod yX12_opens ∈ gt := gt_in (tm7 _ (List.mem_of_getElem? (i := 143) rfl)) rfl
theorem w7_144 : Cond.code yX12_opens cX12_opens 3 (some .boolean) ∈ gt := gt_in (tm7 _ (List.mem_of_getElem? (i := 144) rfl)) rfl
theorem w7_145 : Cond.methodLink RX12 282 yX12_waitFor ∈ gt := gt_in (tm7 _ (List.mem_of_getElem? (i := 145) rfl)) rfl
theorem w7_147 : Cond.instanceMethod yX12_waitFor ∈ gt := gt_in (tm7 _ (List.mem_of_getElem? (i := 147) rfl)) rfl
theorem w7_148 : Cond.code yX12_waitFor cX12_waitFor 3 none ∈ gt := gt_in (tm7 _ (List.mem_of_getElem? (i := 148) rfl)) rfl
theorem w7_149 : Cond.methodLink RX12 294 yX12_grown ∈ gt := gt_in (tm7 _ (List.mem_of_getElem? (i := 149) rfl)) rfl
theorem w7_151 : Cond.instanceMethod yX12_grown ∈ gt := gt_in (tm7 _ (List.mem_of_getElem? (i := 151) rfl)) rfl
theorem w7_152 : Cond.code yX12_grown cX12_grown 3 (some .int) ∈ gt := gt_in (tm7 _ (List.mem_of_getElem? (i := 152) rfl)) rfl
theorem w7_153 : Cond.methodLink RX12 297 yX12_compares ∈ gt := gt_in (tm7 _ (List.mem_of_getElem? (i := 153) rfl)) rfl
theorem w7_155 : Cond.instanceMethod yX12_compares ∈ gt := gt_in (tm7 _ (List.mem_of_getElem? (i := 155) rfl)) rfl
theorem w7_156 : Cond.code yX12_compares cX12_compares 2 (some .boolean) ∈ gt := gt_in (tm7 _ (List.mem_of_getElem? (i := 156) rfl)) rfl
theorem w7_157 : Cond.methodLink RX12 276 yX12_done ∈ gt := gt_in (tm7 _ (List.mem_of_getElem? (i := 157) rfl)) rfl
theorem w7_159 : Cond.instanceMethod yX12_done ∈ gt := gt_in (tm7 _ (List.mem_of_getElem? (i := 159) rfl)) rfl
theorem w7_160 : Cond.code yX12_done cX12_done 2 none ∈ gt := gt_in (tm7 _ (List.mem_of_getElem? (i := 160) rfl)) rfl
theorem w7_161 : Cond.methodLink RX12 263 yX12_hold ∈ gt := gt_in (tm7 _ (List.mem_of_getElem? (i := 161) rfl)) rfl
theorem w7_163 : Cond.instanceMethod yX12_hold ∈ gt := gt_in (tm7 _ (List.mem_of_getElem? (i := 163) rfl)) rfl
theorem w7_164 : Cond.code yX12_hold cX12_hold 2 none ∈ gt := gt_in (tm7 _ (List.mem_of_getElem? (i := 164) rfl)) rfl
theorem w7_165 : Cond.methodLink RX12 309 yX12_joins ∈ gt := gt_in (tm7 _ (List.mem_of_getElem? (i := 165) rfl)) rfl
theorem w7_167 : Cond.instanceMethod yX12_joins ∈ gt := gt_in (tm7 _ (List.mem_of_getElem? (i := 167) rfl)) rfl
theorem w7_168 : Cond.code yX12_joins cX12_joins 3 (some .boolean) ∈ gt := gt_in (tm7 _ (List.mem_of_getElem? (i := 168) rfl)) rfl
theorem w7_169 : Cond.methodLink RX12 269 yX12_weight ∈ gt := gt_in (tm7 _ (List.mem_of_getElem? (i := 169) rfl)) rfl
theorem w7_170 : Cond.static yX12_weight ∈ gt := gt_in (tm7 _ (List.mem_of_getElem? (i := 170) rfl)) rfl
theorem w7_171 : Cond.code yX12_weight cX12_weight 1 (some .int) ∈ gt := gt_in (tm7 _ (List.mem_of_getElem? (i := 171) rfl)) rfl
theorem w7_172 : Cond.methodLink RX12 303 yX12_bind ∈ gt := gt_in (tm7 _ (List.mem_of_getElem? (i := 172) rfl)) rfl
theorem w7_174 : Cond.instanceMethod yX12_bind ∈ gt := gt_in (tm7 _ (List.mem_of_getElem? (i := 174) rfl)) rfl
theorem w7_175 : Cond.code yX12_bind cX12_bind 3 none ∈ gt := gt_in (tm7 _ (List.mem_of_getElem? (i := 175) rfl)) rfl
theorem w7_176 : Cond.methodLink RX12 272 yX12_drop ∈ gt := gt_in (tm7 _ (List.mem_of_getElem? (i := 176) rfl)) rfl
theorem w7_178 : Cond.instanceMethod yX12_drop ∈ gt := gt_in (tm7 _ (List.mem_of_getElem? (i := 178) rfl)) rfl
theorem w7_179 : Cond.code yX12_drop cX12_drop 1 (some .int) ∈ gt := gt_in (tm7 _ (List.mem_of_getElem? (i := 179) rfl)) rfl
theorem w7_180 : Cond.methodLink RX12 312 yX12_closes ∈ gt := gt_in (tm7 _ (List.mem_of_getElem? (i := 180) rfl)) rfl
theorem w7_182 : Cond.instanceMethod yX12_closes ∈ gt := gt_in (tm7 _ (List.mem_of_getElem? (i := 182) rfl)) rfl
theorem w7_183 : Cond.code yX12_closes cX12_closes 3 (some .boolean) ∈ gt := gt_in (tm7 _ (List.mem_of_getElem? (i := 183) rfl)) rfl
theorem w7_184 : Cond.methodLink RL 78 yX12_told ∈ gt := gt_in (tm7 _ (List.mem_of_getElem? (i := 184) rfl)) rfl
theorem w7_185 : Cond.instanceMethod yX12_told ∈ gt := gt_in (tm7 _ (List.mem_of_getElem? (i := 185) rfl)) rfl
theorem w7_186 : Cond.selects RX12 yX12_told yX12_told ∈ gt := gt_in (tm7 _ (List.mem_of_getElem? (i := 186) rfl)) rfl
theorem w7_187 : Cond.code yX12_told cX12_told 3 (some .int) ∈ gt := gt_in (tm7 _ (List.mem_of_getElem? (i := 187) rfl)) rfl
theorem w7_188 : Cond.methodLink RX12 356 yX12_kindOf ∈ gt := gt_in (tm7 _ (List.mem_of_getElem? (i := 188) rfl)) rfl
theorem w7_190 : Cond.instanceMethod yX12_kindOf ∈ gt := gt_in (tm7 _ (List.mem_of_getElem? (i := 190) rfl)) rfl
theorem w7_191 : Cond.code yX12_kindOf cX12_kindOf 3 (some .int) ∈ gt := gt_in (tm7 _ (List.mem_of_getElem? (i := 191) rfl)) rfl
theorem w7_192 : Cond.methodLink RX12 353 yX12_lineOf ∈ gt := gt_in (tm7 _ (List.mem_of_getElem? (i := 192) rfl)) rfl
theorem w7_194 : Cond.instanceMethod yX12_lineOf ∈ gt := gt_in (tm7 _ (List.mem_of_getElem? (i := 194) rfl)) rfl
theorem w7_195 : Cond.code yX12_lineOf cX12_lineOf 9 (some .int) ∈ gt := gt_in (tm7 _ (List.mem_of_getElem? (i := 195) rfl)) rfl
theorem w7_196 : Cond.methodLink RX12 347 yX12_layersSo ∈ gt := gt_in (tm7 _ (List.mem_of_getElem? (i := 196) rfl)) rfl
theorem w7_198 : Cond.instanceMethod yX12_layersSo ∈ gt := gt_in (tm7 _ (List.mem_of_getElem? (i := 198) rfl)) rfl
theorem w7_199 : Cond.code yX12_layersSo cX12_layersSo 8 (some .int) ∈ gt := gt_in (tm7 _ (List.mem_of_getElem? (i := 199) rfl)) rfl
theorem w7_200 : Cond.methodLink RX12 339 yX12_layerOf ∈ gt := gt_in (tm7 _ (List.mem_of_getElem? (i := 200) rfl)) rfl
theorem w7_202 : Cond.instanceMethod yX12_layerOf ∈ gt := gt_in (tm7 _ (List.mem_of_getElem? (i := 202) rfl)) rfl
theorem w7_203 : Cond.code yX12_layerOf cX12_layerOf 4 (some .int) ∈ gt := gt_in (tm7 _ (List.mem_of_getElem? (i := 203) rfl)) rfl
theorem w7_204 : Cond.methodLink RX12 343 yX12_holds ∈ gt := gt_in (tm7 _ (List.mem_of_getElem? (i := 204) rfl)) rfl
theorem w7_205 : Cond.static yX12_holds ∈ gt := gt_in (tm7 _ (List.mem_of_getElem? (i := 205) rfl)) rfl
theorem w7_206 : Cond.code yX12_holds cX12_holds 3 (some .boolean) ∈ gt := gt_in (tm7 _ (List.mem_of_getElem? (i := 206) rfl)) rfl
theorem w7_207 : Cond.methodLink RX12 350 yX12_isSo ∈ gt := gt_in (tm7 _ (List.mem_of_getElem? (i := 207) rfl)) rfl
theorem w7_209 : Cond.instanceMethod yX12_isSo ∈ gt := gt_in (tm7 _ (List.mem_of_getElem? (i := 209) rfl)) rfl
theorem w7_210 : Cond.code yX12_isSo cX12_isSo 8 (some .boolean) ∈ gt := gt_in (tm7 _ (List.mem_of_getElem? (i := 210) rfl)) rfl
theorem w7_211 : Cond.methodLink RL 84 yX12_look ∈ gt := gt_in (tm7 _ (List.mem_of_getElem? (i := 211) rfl)) rfl
theorem w7_212 : Cond.instanceMethod yX12_look ∈ gt := gt_in (tm7 _ (List.mem_of_getElem? (i := 212) rfl)) rfl
theorem w7_213 : Cond.selects RX12 yX12_look yX12_look ∈ gt := gt_in (tm7 _ (List.mem_of_getElem? (i := 213) rfl)) rfl
theorem w7_214 : Cond.code yX12_look cX12_look 3 (some .int) ∈ gt := gt_in (tm7 _ (List.mem_of_getElem? (i := 214) rfl)) rfl
theorem w7_215 : Cond.methodLink RX12 365 yX12_fails ∈ gt := gt_in (tm7 _ (List.mem_of_getElem? (i := 215) rfl)) rfl
theorem w7_217 : Cond.instanceMethod yX12_fails ∈ gt := gt_in (tm7 _ (List.mem_of_getElem? (i := 217) rfl)) rfl
theorem w7_218 : Cond.code yX12_fails cX12_fails 2 (some .int) ∈ gt := gt_in (tm7 _ (List.mem_of_getElem? (i := 218) rfl)) rfl
theorem w7_219 : Cond.methodLink RX12 362 yX12_slope ∈ gt := gt_in (tm7 _ (List.mem_of_getElem? (i := 219) rfl)) rfl
theorem w7_221 : Cond.instanceMethod yX12_slope ∈ gt := gt_in (tm7 _ (List.mem_of_getElem? (i := 221) rfl)) rfl
theorem w7_222 : Cond.code yX12_slope cX12_slope 7 (some .int) ∈ gt := gt_in (tm7 _ (List.mem_of_getElem? (i := 222) rfl)) rfl
theorem w7_223 : Cond.methodLink RX12 359 yX12_size ∈ gt := gt_in (tm7 _ (List.mem_of_getElem? (i := 223) rfl)) rfl
theorem w7_224 : Cond.static yX12_size ∈ gt := gt_in (tm7 _ (List.mem_of_getElem? (i := 224) rfl)) rfl
theorem w7_225 : Cond.code yX12_size cX12_size 1 (some .int) ∈ gt := gt_in (tm7 _ (List.mem_of_getElem? (i := 225) rfl)) rfl
theorem w7_226 : Cond.methodLink RX12 368 yX12_steep ∈ gt := gt_in (tm7 _ (List.mem_of_getElem? (i := 226) rfl)) rfl
theorem w7_228 : Cond.instanceMethod yX12_steep ∈ gt := gt_in (tm7 _ (List.mem_of_getElem? (i := 228) rfl)) rfl
theorem w7_229 : Cond.code yX12_steep cX12_steep 2 (some .int) ∈ gt := gt_in (tm7 _ (List.mem_of_getElem? (i := 229) rfl)) rfl
theorem w7_230 : Cond.methodLink RX12 371 yX12_feel ∈ gt := gt_in (tm7 _ (List.mem_of_getElem? (i := 230) rfl)) rfl
theorem w7_232 : Cond.instanceMethod yX12_feel ∈ gt := gt_in (tm7 _ (List.mem_of_getElem? (i := 232) rfl)) rfl
theorem w7_233 : Cond.code yX12_feel cX12_feel 2 (some .int) ∈ gt := gt_in (tm7 _ (List.mem_of_getElem? (i := 233) rfl)) rfl
theorem w7_234 : Cond.methodLink RL 92 yX12_like ∈ gt := gt_in (tm7 _ (List.mem_of_getElem? (i := 234) rfl)) rfl
theorem w7_235 : Cond.instanceMethod yX12_like ∈ gt := gt_in (tm7 _ (List.mem_of_getElem? (i := 235) rfl)) rfl
theorem w7_236 : Cond.selects RX12 yX12_like yX12_like ∈ gt := gt_in (tm7 _ (List.mem_of_getElem? (i := 236) rfl)) rfl
theorem w7_237 : Cond.code yX12_like cX12_like 3 (some .int) ∈ gt := gt_in (tm7 _ (List.mem_of_getElem? (i := 237) rfl)) rfl
theorem w7_238 : Cond.methodLink RX12 377 yX12_alike ∈ gt := gt_in (tm7 _ (List.mem_of_getElem? (i := 238) rfl)) rfl
theorem w8_0 : Cond.instanceMethod yX12_alike ∈ gt := gt_in (tm8 _ (List.mem_of_getElem? (i := 0) rfl)) rfl
theorem w8_1 : Cond.code yX12_alike cX12_alike 4 (some .int) ∈ gt := gt_in (tm8 _ (List.mem_of_getElem? (i := 1) rfl)) rfl
theorem w8_2 : Cond.methodLink RX12 374 yX12_far ∈ gt := gt_in (tm8 _ (List.mem_of_getElem? (i := 2) rfl)) rfl
theorem w8_4 : Cond.instanceMethod yX12_far ∈ gt := gt_in (tm8 _ (List.mem_of_getElem? (i := 4) rfl)) rfl
theorem w8_5 : Cond.code yX12_far cX12_far 5 (some .int) ∈ gt := gt_in (tm8 _ (List.mem_of_getElem? (i := 5) rfl)) rfl
theorem w8_6 : Cond.methodLink RL 66 yX12_reads ∈ gt := gt_in (tm8 _ (List.mem_of_getElem? (i := 6) rfl)) rfl
theorem w8_7 : Cond.instanceMethod yX12_reads ∈ gt := gt_in (tm8 _ (List.mem_of_getElem? (i := 7) rfl)) rfl
theorem w8_8 : Cond.selects RX12 yX12_reads yX12_reads ∈ gt := gt_in (tm8 _ (List.mem_of_getElem? (i := 8) rfl)) rfl
theorem w8_9 : Cond.code yX12_reads cX12_reads 10 (some .boolean) ∈ gt := gt_in (tm8 _ (List.mem_of_getElem? (i := 9) rfl)) rfl
theorem w8_10 : Cond.methodLink RL 70 yX12_value ∈ gt := gt_in (tm8 _ (List.mem_of_getElem? (i := 10) rfl)) rfl
theorem w8_11 : Cond.instanceMethod yX12_value ∈ gt := gt_in (tm8 _ (List.mem_of_getElem? (i := 11) rfl)) rfl
theorem w8_12 : Cond.selects RX12 yX12_value yX12_value ∈ gt := gt_in (tm8 _ (List.mem_of_getElem? (i := 12) rfl)) rfl
theorem w8_13 : Cond.code yX12_value cX12_value 3 (some .boolean) ∈ gt := gt_in (tm8 _ (List.mem_of_getElem? (i := 13) rfl)) rfl
theorem w8_14 : Cond.methodLink RL 97 yX12_chance ∈ gt := gt_in (tm8 _ (List.mem_of_getElem? (i := 14) rfl)) rfl
theorem w8_15 : Cond.instanceMethod yX12_chance ∈ gt := gt_in (tm8 _ (List.mem_of_getElem? (i := 15) rfl)) rfl
theorem w8_16 : Cond.selects RX12 yX12_chance yX12_chance ∈ gt := gt_in (tm8 _ (List.mem_of_getElem? (i := 16) rfl)) rfl
theorem w8_17 : Cond.code yX12_chance cX12_chance 5 (some .int) ∈ gt := gt_in (tm8 _ (List.mem_of_getElem? (i := 17) rfl)) rfl
theorem w8_18 : Cond.methodLink RX12 383 yX12_isKnown ∈ gt := gt_in (tm8 _ (List.mem_of_getElem? (i := 18) rfl)) rfl
theorem w8_20 : Cond.instanceMethod yX12_isKnown ∈ gt := gt_in (tm8 _ (List.mem_of_getElem? (i := 20) rfl)) rfl
theorem w8_21 : Cond.code yX12_isKnown cX12_isKnown 2 (some .boolean) ∈ gt := gt_in (tm8 _ (List.mem_of_getElem? (i := 21) rfl)) rfl
theorem w8_22 : Cond.methodLink RX12 386 yX12_know ∈ gt := gt_in (tm8 _ (List.mem_of_getElem? (i := 22) rfl)) rfl
theorem w8_24 : Cond.instanceMethod yX12_know ∈ gt := gt_in (tm8 _ (List.mem_of_getElem? (i := 24) rfl)) rfl
theorem w8_25 : Cond.code yX12_know cX12_know 3 none ∈ gt := gt_in (tm8 _ (List.mem_of_getElem? (i := 25) rfl)) rfl
theorem w8_26 : Cond.methodLink RX12 389 yX12_weigh ∈ gt := gt_in (tm8 _ (List.mem_of_getElem? (i := 26) rfl)) rfl
theorem w8_28 : Cond.instanceMethod yX12_weigh ∈ gt := gt_in (tm8 _ (List.mem_of_getElem? (i := 28) rfl)) rfl
theorem w8_29 : Cond.code yX12_weigh cX12_weigh 6 none ∈ gt := gt_in (tm8 _ (List.mem_of_getElem? (i := 29) rfl)) rfl
theorem w8_30 : Cond.methodLink RX12 392 yX12_part ∈ gt := gt_in (tm8 _ (List.mem_of_getElem? (i := 30) rfl)) rfl
theorem w8_32 : Cond.instanceMethod yX12_part ∈ gt := gt_in (tm8 _ (List.mem_of_getElem? (i := 32) rfl)) rfl
theorem w8_33 : Cond.code yX12_part cX12_part 2 (some .int) ∈ gt := gt_in (tm8 _ (List.mem_of_getElem? (i := 33) rfl)) rfl
theorem w8_34 : Cond.methodLink RX12 395 yX12_bestHere ∈ gt := gt_in (tm8 _ (List.mem_of_getElem? (i := 34) rfl)) rfl
theorem w8_36 : Cond.instanceMethod yX12_bestHere ∈ gt := gt_in (tm8 _ (List.mem_of_getElem? (i := 36) rfl)) rfl
theorem w8_37 : Cond.code yX12_bestHere cX12_bestHere 3 (some .int) ∈ gt := gt_in (tm8 _ (List.mem_of_getElem? (i := 37) rfl)) rfl
theorem w8_38 : Cond.methodLink RL 101 yX12_leftOut ∈ gt := gt_in (tm8 _ (List.mem_of_getElem? (i := 38) rfl)) rfl
theorem w8_39 : Cond.instanceMethod yX12_leftOut ∈ gt := gt_in (tm8 _ (List.mem_of_getElem? (i := 39) rfl)) rfl
theorem w8_40 : Cond.selects RX12 yX12_leftOut yX12_leftOut ∈ gt := gt_in (tm8 _ (List.mem_of_getElem? (i := 40) rfl)) rfl
theorem w8_41 : Cond.code yX12_leftOut cX12_leftOut 7 (some .int) ∈ gt := gt_in (tm8 _ (List.mem_of_getElem? (i := 41) rfl)) rfl
theorem w8_42 : Cond.methodLink RL 106 yX12_draw ∈ gt := gt_in (tm8 _ (List.mem_of_getElem? (i := 42) rfl)) rfl
theorem w8_43 : Cond.instanceMethod yX12_draw ∈ gt := gt_in (tm8 _ (List.mem_of_getElem? (i := 43) rfl)) rfl
theorem w8_44 : Cond.selects RX12 yX12_draw yX12_draw ∈ gt := gt_in (tm8 _ (List.mem_of_getElem? (i := 44) rfl)) rfl
theorem w8_45 : Cond.code yX12_draw cX12_draw 10 (some .int) ∈ gt := gt_in (tm8 _ (List.mem_of_getElem? (i := 45) rfl)) rfl
theorem w8_46 : Cond.methodLink RX12 401 yX12_onward ∈ gt := gt_in (tm8 _ (List.mem_of_getElem? (i := 46) rfl)) rfl
theorem w8_48 : Cond.instanceMethod yX12_onward ∈ gt := gt_in (tm8 _ (List.mem_of_getElem? (i := 48) rfl)) rfl
theorem w8_49 : Cond.code yX12_onward cX12_onward 7 (some .int) ∈ gt := gt_in (tm8 _ (List.mem_of_getElem? (i := 49) rfl)) rfl
theorem w8_50 : Cond.methodLink RX12 398 yX12_change ∈ gt := gt_in (tm8 _ (List.mem_of_getElem? (i := 50) rfl)) rfl
theorem w8_52 : Cond.instanceMethod yX12_change ∈ gt := gt_in (tm8 _ (List.mem_of_getElem? (i := 52) rfl)) rfl
theorem w8_53 : Cond.code yX12_change cX12_change 4 (some .int) ∈ gt := gt_in (tm8 _ (List.mem_of_getElem? (i := 53) rfl)) rfl
theorem w8_54 : Cond.methodLink RL 110 yX12_drawn ∈ gt := gt_in (tm8 _ (List.mem_of_getElem? (i := 54) rfl)) rfl
theorem w8_55 : Cond.instanceMethod yX12_drawn ∈ gt := gt_in (tm8 _ (List.mem_of_getElem? (i := 55) rfl)) rfl
theorem w8_56 : Cond.selects RX12 yX12_drawn yX12_drawn ∈ gt := gt_in (tm8 _ (List.mem_of_getElem? (i := 56) rfl)) rfl
theorem w8_57 : Cond.code yX12_drawn cX12_drawn 2 (some .int) ∈ gt := gt_in (tm8 _ (List.mem_of_getElem? (i := 57) rfl)) rfl
theorem w8_58 : Cond.methodLink RL 114 yX12_plan ∈ gt := gt_in (tm8 _ (List.mem_of_getElem? (i := 58) rfl)) rfl
theorem w8_59 : Cond.instanceMethod yX12_plan ∈ gt := gt_in (tm8 _ (List.mem_of_getElem? (i := 59) rfl)) rfl
theorem w8_60 : Cond.selects RX12 yX12_plan yX12_plan ∈ gt := gt_in (tm8 _ (List.mem_of_getElem? (i := 60) rfl)) rfl
theorem w8_61 : Cond.code yX12_plan cX12_plan 10 (some .int) ∈ gt := gt_in (tm8 _ (List.mem_of_getElem? (i := 61) rfl)) rfl
theorem w8_62 : Cond.methodLink RX12 419 yX12_mayBore ∈ gt := gt_in (tm8 _ (List.mem_of_getElem? (i := 62) rfl)) rfl
theorem w8_64 : Cond.instanceMethod yX12_mayBore ∈ gt := gt_in (tm8 _ (List.mem_of_getElem? (i := 64) rfl)) rfl
theorem w8_65 : Cond.code yX12_mayBore cX12_mayBore 2 (some .boolean) ∈ gt := gt_in (tm8 _ (List.mem_of_getElem? (i := 65) rfl)) rfl
theorem w8_66 : Cond.methodLink RX12 422 yX12_steps ∈ gt := gt_in (tm8 _ (List.mem_of_getElem? (i := 66) rfl)) rfl
theorem w8_68 : Cond.instanceMethod yX12_steps ∈ gt := gt_in (tm8 _ (List.mem_of_getElem? (i := 68) rfl)) rfl
theorem w8_69 : Cond.code yX12_steps cX12_steps 3 (some .int) ∈ gt := gt_in (tm8 _ (List.mem_of_getElem? (i := 69) rfl)) rfl
theorem w8_70 : Cond.methodLink RX12 425 yX12_better ∈ gt := gt_in (tm8 _ (List.mem_of_getElem? (i := 70) rfl)) rfl
theorem w8_72 : Cond.instanceMethod yX12_better ∈ gt := gt_in (tm8 _ (List.mem_of_getElem? (i := 72) rfl)) rfl
theorem w8_73 : Cond.code yX12_better cX12_better 8 none ∈ gt := gt_in (tm8 _ (List.mem_of_getElem? (i := 73) rfl)) rfl
theorem w8_74 : Cond.methodLink RL 118 yX12_planned ∈ gt := gt_in (tm8 _ (List.mem_of_getElem? (i := 74) rfl)) rfl
theorem w8_75 : Cond.instanceMethod yX12_planned ∈ gt := gt_in (tm8 _ (List.mem_of_getElem? (i := 75) rfl)) rfl
theorem w8_76 : Cond.selects RX12 yX12_planned yX12_planned ∈ gt := gt_in (tm8 _ (List.mem_of_getElem? (i := 76) rfl)) rfl
theorem w8_77 : Cond.code yX12_planned cX12_planned 3 (some .int) ∈ gt := gt_in (tm8 _ (List.mem_of_getElem? (i := 77) rfl)) rfl
theorem w8_78 : Cond.methodLink RL 122 yX12_turned ∈ gt := gt_in (tm8 _ (List.mem_of_getElem? (i := 78) rfl)) rfl
theorem w8_79 : Cond.instanceMethod yX12_turned ∈ gt := gt_in (tm8 _ (List.mem_of_getElem? (i := 79) rfl)) rfl
theorem w8_80 : Cond.selects RX12 yX12_turned yX12_turned ∈ gt := gt_in (tm8 _ (List.mem_of_getElem? (i := 80) rfl)) rfl
theorem w8_81 : Cond.code yX12_turned cX12_turned 3 (some .int) ∈ gt := gt_in (tm8 _ (List.mem_of_getElem? (i := 81) rfl)) rfl
theorem w8_82 : Cond.methodLink RX12 432 yX12_turnedTo ∈ gt := gt_in (tm8 _ (List.mem_of_getElem? (i := 82) rfl)) rfl
theorem w8_84 : Cond.instanceMethod yX12_turnedTo ∈ gt := gt_in (tm8 _ (List.mem_of_getElem? (i := 84) rfl)) rfl
theorem w8_85 : Cond.code yX12_turnedTo cX12_turnedTo 5 (some .int) ∈ gt := gt_in (tm8 _ (List.mem_of_getElem? (i := 85) rfl)) rfl
theorem w8_86 : Cond.methodLink RX12 429 yX12_boresOf ∈ gt := gt_in (tm8 _ (List.mem_of_getElem? (i := 86) rfl)) rfl
theorem w8_88 : Cond.instanceMethod yX12_boresOf ∈ gt := gt_in (tm8 _ (List.mem_of_getElem? (i := 88) rfl)) rfl
theorem w8_89 : Cond.code yX12_boresOf cX12_boresOf 5 (some .int) ∈ gt := gt_in (tm8 _ (List.mem_of_getElem? (i := 89) rfl)) rfl
theorem w8_90 : Cond.methodLink RL 126 yX12_maps ∈ gt := gt_in (tm8 _ (List.mem_of_getElem? (i := 90) rfl)) rfl
theorem w8_91 : Cond.instanceMethod yX12_maps ∈ gt := gt_in (tm8 _ (List.mem_of_getElem? (i := 91) rfl)) rfl
theorem w8_92 : Cond.selects RX12 yX12_maps yX12_maps ∈ gt := gt_in (tm8 _ (List.mem_of_getElem? (i := 92) rfl)) rfl
theorem w8_93 : Cond.code yX12_maps cX12_maps 6 (some .int) ∈ gt := gt_in (tm8 _ (List.mem_of_getElem? (i := 93) rfl)) rfl
theorem w8_94 : Cond.methodLink RX12 435 yX12_turnedAt ∈ gt := gt_in (tm8 _ (List.mem_of_getElem? (i := 94) rfl)) rfl
theorem w8_96 : Cond.instanceMethod yX12_turnedAt ∈ gt := gt_in (tm8 _ (List.mem_of_getElem? (i := 96) rfl)) rfl
theorem w8_97 : Cond.code yX12_turnedAt cX12_turnedAt 2 (some .int) ∈ gt := gt_in (tm8 _ (List.mem_of_getElem? (i := 97) rfl)) rfl
theorem w8_98 : Cond.methodLink RX12 438 yX12_bestAt ∈ gt := gt_in (tm8 _ (List.mem_of_getElem? (i := 98) rfl)) rfl
theorem w8_100 : Cond.instanceMethod yX12_bestAt ∈ gt := gt_in (tm8 _ (List.mem_of_getElem? (i := 100) rfl)) rfl
theorem w8_101 : Cond.code yX12_bestAt cX12_bestAt 2 (some .int) ∈ gt := gt_in (tm8 _ (List.mem_of_getElem? (i := 101) rfl)) rfl
theorem w8_102 : Cond.methodLink RL 130 yX12_worth ∈ gt := gt_in (tm8 _ (List.mem_of_getElem? (i := 102) rfl)) rfl
theorem w8_103 : Cond.instanceMethod yX12_worth ∈ gt := gt_in (tm8 _ (List.mem_of_getElem? (i := 103) rfl)) rfl
theorem w8_104 : Cond.selects RX12 yX12_worth yX12_worth ∈ gt := gt_in (tm8 _ (List.mem_of_getElem? (i := 104) rfl)) rfl
theorem w8_105 : Cond.code yX12_worth cX12_worth 10 (some .int) ∈ gt := gt_in (tm8 _ (List.mem_of_getElem? (i := 105) rfl)) rfl
theorem w8_106 : Cond.methodLink RL 134 yX12_hands ∈ gt := gt_in (tm8 _ (List.mem_of_getElem? (i := 106) rfl)) rfl
theorem w8_107 : Cond.instanceMethod yX12_hands ∈ gt := gt_in (tm8 _ (List.mem_of_getElem? (i := 107) rfl)) rfl
theorem w8_108 : Cond.selects RX12 yX12_hands yX12_hands ∈ gt := gt_in (tm8 _ (List.mem_of_getElem? (i := 108) rfl)) rfl
theorem w8_109 : Cond.code yX12_hands cX12_hands 12 (some .int) ∈ gt := gt_in (tm8 _ (List.mem_of_getElem? (i := 109) rfl)) rfl
theorem w8_110 : Cond.constant RX12 441 (-1000000 : Int32) ∈ gt := gt_in (tm8 _ (List.mem_of_getElem? (i := 110) rfl)) rfl
theorem w8_111 : Cond.methodLink RX12 442 yX12_latestOf ∈ gt := gt_in (tm8 _ (List.mem_of_getElem? (i := 111) rfl)) rfl
theorem w8_113 : Cond.instanceMethod yX12_latestOf ∈ gt := gt_in (tm8 _ (List.mem_of_getElem? (i := 113) rfl)) rfl
theorem w8_114 : Cond.code yX12_latestOf cX12_latestOf 4 (some .int) ∈ gt := gt_in (tm8 _ (List.mem_of_getElem? (i := 114) rfl)) rfl
theorem w8_115 : Cond.methodLink RL 138 yX12_count ∈ gt := gt_in (tm8 _ (List.mem_of_getElem? (i := 115) rfl)) rfl
theorem w8_116 : Cond.instanceMethod yX12_count ∈ gt := gt_in (tm8 _ (List.mem_of_getElem? (i := 116) rfl)) rfl
theorem w8_117 : Cond.selects RX12 yX12_count yX12_count ∈ gt := gt_in (tm8 _ (List.mem_of_getElem? (i := 117) rfl)) rfl
theorem w8_118 : Cond.code yX12_count cX12_count 4 (some .int) ∈ gt := gt_in (tm8 _ (List.mem_of_getElem? (i := 118) rfl)) rfl
theorem wp1_0 : Cond.selects RX6 yX6_reckon yX6_reckon ∈ gt := gt_in (tp1 _ (List.mem_of_getElem? (i := 0) rfl)) rfl
theorem wp1_1 : Cond.selects RX6 yX6_slopeOf yX6_slopeOf ∈ gt := gt_in (tp1 _ (List.mem_of_getElem? (i := 1) rfl)) rfl
theorem wp1_2 : Cond.selects RX11 yX11_putBytes yX11_putBytes ∈ gt := gt_in (tp1 _ (List.mem_of_getElem? (i := 2) rfl)) rfl
theorem wp1_3 : Cond.selects RX10 yX10_cutNumber yX10_cutNumber ∈ gt := gt_in (tp1 _ (List.mem_of_getElem? (i := 3) rfl)) rfl
theorem wp1_4 : Cond.selects RX10 yX10_cutWord yX10_cutWord ∈ gt := gt_in (tp1 _ (List.mem_of_getElem? (i := 4) rfl)) rfl
theorem wp1_5 : Cond.selects RX10 yX10_wordNumber yX10_wordNumber ∈ gt := gt_in (tp1 _ (List.mem_of_getElem? (i := 5) rfl)) rfl
theorem wp1_6 : Cond.selects RX10 yX10_cutSign yX10_cutSign ∈ gt := gt_in (tp1 _ (List.mem_of_getElem? (i := 6) rfl)) rfl
theorem wp1_7 : Cond.selects RX5 yX5_readKind yX5_readKind ∈ gt := gt_in (tp1 _ (List.mem_of_getElem? (i := 7) rfl)) rfl
theorem wp1_8 : Cond.selects RX5 yX5_readEither yX5_readEither ∈ gt := gt_in (tp1 _ (List.mem_of_getElem? (i := 8) rfl)) rfl
theorem wp1_9 : Cond.selects RX5 yX5_readBoth yX5_readBoth ∈ gt := gt_in (tp1 _ (List.mem_of_getElem? (i := 9) rfl)) rfl
theorem wp1_10 : Cond.selects RX5 yX5_readMaybeNot yX5_readMaybeNot ∈ gt := gt_in (tp1 _ (List.mem_of_getElem? (i := 10) rfl)) rfl
theorem wp1_11 : Cond.selects RX5 yX5_takeKnot yX5_takeKnot ∈ gt := gt_in (tp1 _ (List.mem_of_getElem? (i := 11) rfl)) rfl
theorem wp1_12 : Cond.selects RX5 yX5_readBracket yX5_readBracket ∈ gt := gt_in (tp1 _ (List.mem_of_getElem? (i := 12) rfl)) rfl
theorem wp1_13 : Cond.selects RX5 yX5_readOfLayer yX5_readOfLayer ∈ gt := gt_in (tp1 _ (List.mem_of_getElem? (i := 13) rfl)) rfl
theorem wp1_14 : Cond.selects RX5 yX5_readCompare yX5_readCompare ∈ gt := gt_in (tp1 _ (List.mem_of_getElem? (i := 14) rfl)) rfl
theorem wp1_15 : Cond.selects RX5 yX5_readOfBore yX5_readOfBore ∈ gt := gt_in (tp1 _ (List.mem_of_getElem? (i := 15) rfl)) rfl
theorem wp2_0 : Cond.selects RX11 yX11_keepFault yX11_keepFault ∈ gt := gt_in (tp2 _ (List.mem_of_getElem? (i := 0) rfl)) rfl
theorem wp2_1 : Cond.selects RX4 yX4_holds yX4_holds ∈ gt := gt_in (tp2 _ (List.mem_of_getElem? (i := 1) rfl)) rfl
theorem wp2_2 : Cond.selects RX4 yX4_changed yX4_changed ∈ gt := gt_in (tp2 _ (List.mem_of_getElem? (i := 2) rfl)) rfl
theorem wp2_3 : Cond.selects RX4 yX4_compares yX4_compares ∈ gt := gt_in (tp2 _ (List.mem_of_getElem? (i := 3) rfl)) rfl
theorem wp2_4 : Cond.selects RX4 yX4_leaf yX4_leaf ∈ gt := gt_in (tp2 _ (List.mem_of_getElem? (i := 4) rfl)) rfl
theorem wp2_5 : Cond.selects RX4 yX4_isSo yX4_isSo ∈ gt := gt_in (tp2 _ (List.mem_of_getElem? (i := 5) rfl)) rfl
theorem wp2_6 : Cond.selects RX7 yX7_readDepths yX7_readDepths ∈ gt := gt_in (tp2 _ (List.mem_of_getElem? (i := 6) rfl)) rfl
theorem wp2_7 : Cond.selects RX7 yX7_readLook yX7_readLook ∈ gt := gt_in (tp2 _ (List.mem_of_getElem? (i := 7) rfl)) rfl
theorem wp2_8 : Cond.selects RX7 yX7_readWord yX7_readWord ∈ gt := gt_in (tp2 _ (List.mem_of_getElem? (i := 8) rfl)) rfl
theorem wp2_9 : Cond.selects RX7 yX7_readStones yX7_readStones ∈ gt := gt_in (tp2 _ (List.mem_of_getElem? (i := 9) rfl)) rfl
theorem wp2_10 : Cond.selects RX11 yX11_isKind yX11_isKind ∈ gt := gt_in (tp2 _ (List.mem_of_getElem? (i := 10) rfl)) rfl
theorem wp2_11 : Cond.selects RX1 yX1_findStruck yX1_findStruck ∈ gt := gt_in (tp2 _ (List.mem_of_getElem? (i := 11) rfl)) rfl
theorem wp2_12 : Cond.selects RX2 yX2_addBore yX2_addBore ∈ gt := gt_in (tp2 _ (List.mem_of_getElem? (i := 12) rfl)) rfl
theorem wp2_13 : Cond.selects RX11 yX11_countRight yX11_countRight ∈ gt := gt_in (tp2 _ (List.mem_of_getElem? (i := 13) rfl)) rfl
theorem wp2_14 : Cond.selects RX11 yX11_sumSaid yX11_sumSaid ∈ gt := gt_in (tp2 _ (List.mem_of_getElem? (i := 14) rfl)) rfl
theorem wp2_15 : Cond.selects RX3 yX3_followerOf yX3_followerOf ∈ gt := gt_in (tp2 _ (List.mem_of_getElem? (i := 15) rfl)) rfl
theorem wp3_0 : Cond.selects RX3 yX3_costBehind yX3_costBehind ∈ gt := gt_in (tp3 _ (List.mem_of_getElem? (i := 0) rfl)) rfl
theorem wp3_1 : Cond.selects RX3 yX3_chooseKinds yX3_chooseKinds ∈ gt := gt_in (tp3 _ (List.mem_of_getElem? (i := 1) rfl)) rfl
theorem wp3_2 : Cond.selects RX9 yX9_search yX9_search ∈ gt := gt_in (tp3 _ (List.mem_of_getElem? (i := 2) rfl)) rfl
theorem wp3_3 : Cond.selects RX9 yX9_keepFound yX9_keepFound ∈ gt := gt_in (tp3 _ (List.mem_of_getElem? (i := 3) rfl)) rfl
theorem wp3_4 : Cond.selects RX9 yX9_tryCell yX9_tryCell ∈ gt := gt_in (tp3 _ (List.mem_of_getElem? (i := 4) rfl)) rfl
theorem wp3_5 : Cond.selects RX9 yX9_isBetter yX9_isBetter ∈ gt := gt_in (tp3 _ (List.mem_of_getElem? (i := 5) rfl)) rfl
theorem wp3_6 : Cond.selects RX9 yX9_isApart yX9_isApart ∈ gt := gt_in (tp3 _ (List.mem_of_getElem? (i := 6) rfl)) rfl
theorem wp3_7 : Cond.selects RX8 yX8_mostTold yX8_mostTold ∈ gt := gt_in (tp3 _ (List.mem_of_getElem? (i := 7) rfl)) rfl
theorem wp3_8 : Cond.selects RX8 yX8_turnedAt yX8_turnedAt ∈ gt := gt_in (tp3 _ (List.mem_of_getElem? (i := 8) rfl)) rfl
theorem wp3_9 : Cond.selects RX8 yX8_bestAt yX8_bestAt ∈ gt := gt_in (tp3 _ (List.mem_of_getElem? (i := 9) rfl)) rfl
theorem wp3_10 : Cond.selects RX11 yX11_fairValue yX11_fairValue ∈ gt := gt_in (tp3 _ (List.mem_of_getElem? (i := 10) rfl)) rfl
theorem wp3_11 : Cond.selects RX11 yX11_isUnsure yX11_isUnsure ∈ gt := gt_in (tp3 _ (List.mem_of_getElem? (i := 11) rfl)) rfl
theorem wp3_12 : Cond.selects RX0 yX0_findLatest yX0_findLatest ∈ gt := gt_in (tp3 _ (List.mem_of_getElem? (i := 12) rfl)) rfl
theorem wp3_13 : Cond.selects RX0 yX0_countCells yX0_countCells ∈ gt := gt_in (tp3 _ (List.mem_of_getElem? (i := 13) rfl)) rfl
theorem wp3_15 : Cond.selects RX12 yX12_bare yX12_bare ∈ gt := gt_in (tp3 _ (List.mem_of_getElem? (i := 15) rfl)) rfl
theorem wp4_0 : Cond.selects RX12 yX12_isCell yX12_isCell ∈ gt := gt_in (tp4 _ (List.mem_of_getElem? (i := 0) rfl)) rfl
theorem wp4_1 : Cond.selects RX12 yX12_begins yX12_begins ∈ gt := gt_in (tp4 _ (List.mem_of_getElem? (i := 1) rfl)) rfl
theorem wp4_2 : Cond.selects RX12 yX12_take yX12_take ∈ gt := gt_in (tp4 _ (List.mem_of_getElem? (i := 2) rfl)) rfl
theorem wp4_3 : Cond.selects RX12 yX12_isSmall yX12_isSmall ∈ gt := gt_in (tp4 _ (List.mem_of_getElem? (i := 3) rfl)) rfl
theorem wp4_4 : Cond.selects RX12 yX12_wordAt yX12_wordAt ∈ gt := gt_in (tp4 _ (List.mem_of_getElem? (i := 4) rfl)) rfl
theorem wp4_5 : Cond.selects RX12 yX12_isDigit yX12_isDigit ∈ gt := gt_in (tp4 _ (List.mem_of_getElem? (i := 5) rfl)) rfl
theorem wp4_6 : Cond.selects RX12 yX12_signOf yX12_signOf ∈ gt := gt_in (tp4 _ (List.mem_of_getElem? (i := 6) rfl)) rfl
theorem wp4_7 : Cond.selects RX12 yX12_isEqual yX12_isEqual ∈ gt := gt_in (tp4 _ (List.mem_of_getElem? (i := 7) rfl)) rfl
theorem wp4_8 : Cond.selects RX12 yX12_boreRead yX12_boreRead ∈ gt := gt_in (tp4 _ (List.mem_of_getElem? (i := 8) rfl)) rfl
theorem wp4_9 : Cond.selects RX12 yX12_layerRead yX12_layerRead ∈ gt := gt_in (tp4 _ (List.mem_of_getElem? (i := 9) rfl)) rfl
theorem wp4_10 : Cond.selects RX12 yX12_wrong yX12_wrong ∈ gt := gt_in (tp4 _ (List.mem_of_getElem? (i := 10) rfl)) rfl
theorem wp4_11 : Cond.selects RX12 yX12_isSign yX12_isSign ∈ gt := gt_in (tp4 _ (List.mem_of_getElem? (i := 11) rfl)) rfl
theorem wp4_12 : Cond.selects RX12 yX12_isWord yX12_isWord ∈ gt := gt_in (tp4 _ (List.mem_of_getElem? (i := 12) rfl)) rfl
theorem wp4_13 : Cond.selects RX12 yX12_number yX12_number ∈ gt := gt_in (tp4 _ (List.mem_of_getElem? (i := 13) rfl)) rfl
theorem wp4_14 : Cond.selects RX12 yX12_isBore yX12_isBore ∈ gt := gt_in (tp4 _ (List.mem_of_getElem? (i := 14) rfl)) rfl
theorem wp4_15 : Cond.selects RX12 yX12_lineRead yX12_lineRead ∈ gt := gt_in (tp4 _ (List.mem_of_getElem? (i := 15) rfl)) rfl
theorem wp5_0 : Cond.selects RX12 yX12_kindAt yX12_kindAt ∈ gt := gt_in (tp5 _ (List.mem_of_getElem? (i := 0) rfl)) rfl
theorem wp5_1 : Cond.selects RX12 yX12_expression yX12_expression ∈ gt := gt_in (tp5 _ (List.mem_of_getElem? (i := 1) rfl)) rfl
theorem wp5_2 : Cond.selects RX12 yX12_valueRead yX12_valueRead ∈ gt := gt_in (tp5 _ (List.mem_of_getElem? (i := 2) rfl)) rfl
theorem wp5_3 : Cond.selects RX12 yX12_opens yX12_opens ∈ gt := gt_in (tp5 _ (List.mem_of_getElem? (i := 3) rfl)) rfl
theorem wp5_4 : Cond.selects RX12 yX12_waitFor yX12_waitFor ∈ gt := gt_in (tp5 _ (List.mem_of_getElem? (i := 4) rfl)) rfl
theorem wp5_5 : Cond.selects RX12 yX12_grown yX12_grown ∈ gt := gt_in (tp5 _ (List.mem_of_getElem? (i := 5) rfl)) rfl
theorem wp5_6 : Cond.selects RX12 yX12_compares yX12_compares ∈ gt := gt_in (tp5 _ (List.mem_of_getElem? (i := 6) rfl)) rfl
theorem wp5_7 : Cond.selects RX12 yX12_done yX12_done ∈ gt := gt_in (tp5 _ (List.mem_of_getElem? (i := 7) rfl)) rfl
theorem wp5_8 : Cond.selects RX12 yX12_hold yX12_hold ∈ gt := gt_in (tp5 _ (List.mem_of_getElem? (i := 8) rfl)) rfl
theorem wp5_9 : Cond.selects RX12 yX12_joins yX12_joins ∈ gt := gt_in (tp5 _ (List.mem_of_getElem? (i := 9) rfl)) rfl
theorem wp5_10 : Cond.selects RX12 yX12_bind yX12_bind ∈ gt := gt_in (tp5 _ (List.mem_of_getElem? (i := 10) rfl)) rfl
theorem wp5_11 : Cond.selects RX12 yX12_drop yX12_drop ∈ gt := gt_in (tp5 _ (List.mem_of_getElem? (i := 11) rfl)) rfl
theorem wp5_12 : Cond.selects RX12 yX12_closes yX12_closes ∈ gt := gt_in (tp5 _ (List.mem_of_getElem? (i := 12) rfl)) rfl
theorem wp5_13 : Cond.selects RX12 yX12_kindOf yX12_kindOf ∈ gt := gt_in (tp5 _ (List.mem_of_getElem? (i := 13) rfl)) rfl
theorem wp5_14 : Cond.selects RX12 yX12_lineOf yX12_lineOf ∈ gt := gt_in (tp5 _ (List.mem_of_getElem? (i := 14) rfl)) rfl
theorem wp5_15 : Cond.selects RX12 yX12_layersSo yX12_layersSo ∈ gt := gt_in (tp5 _ (List.mem_of_getElem? (i := 15) rfl)) rfl
theorem wp6_0 : Cond.selects RX12 yX12_layerOf yX12_layerOf ∈ gt := gt_in (tp6 _ (List.mem_of_getElem? (i := 0) rfl)) rfl
theorem wp6_1 : Cond.selects RX12 yX12_isSo yX12_isSo ∈ gt := gt_in (tp6 _ (List.mem_of_getElem? (i := 1) rfl)) rfl
theorem wp6_2 : Cond.selects RX12 yX12_fails yX12_fails ∈ gt := gt_in (tp6 _ (List.mem_of_getElem? (i := 2) rfl)) rfl
theorem wp6_3 : Cond.selects RX12 yX12_slope yX12_slope ∈ gt := gt_in (tp6 _ (List.mem_of_getElem? (i := 3) rfl)) rfl
theorem wp6_4 : Cond.selects RX12 yX12_steep yX12_steep ∈ gt := gt_in (tp6 _ (List.mem_of_getElem? (i := 4) rfl)) rfl
theorem wp6_5 : Cond.selects RX12 yX12_feel yX12_feel ∈ gt := gt_in (tp6 _ (List.mem_of_getElem? (i := 5) rfl)) rfl
theorem wp6_6 : Cond.selects RX12 yX12_alike yX12_alike ∈ gt := gt_in (tp6 _ (List.mem_of_getElem? (i := 6) rfl)) rfl
theorem wp6_7 : Cond.selects RX12 yX12_far yX12_far ∈ gt := gt_in (tp6 _ (List.mem_of_getElem? (i := 7) rfl)) rfl
theorem wp6_8 : Cond.selects RX12 yX12_isKnown yX12_isKnown ∈ gt := gt_in (tp6 _ (List.mem_of_getElem? (i := 8) rfl)) rfl
theorem wp6_9 : Cond.selects RX12 yX12_know yX12_know ∈ gt := gt_in (tp6 _ (List.mem_of_getElem? (i := 9) rfl)) rfl
theorem wp6_10 : Cond.selects RX12 yX12_weigh yX12_weigh ∈ gt := gt_in (tp6 _ (List.mem_of_getElem? (i := 10) rfl)) rfl
theorem wp6_11 : Cond.selects RX12 yX12_part yX12_part ∈ gt := gt_in (tp6 _ (List.mem_of_getElem? (i := 11) rfl)) rfl
theorem wp6_12 : Cond.selects RX12 yX12_bestHere yX12_bestHere ∈ gt := gt_in (tp6 _ (List.mem_of_getElem? (i := 12) rfl)) rfl
theorem wp6_13 : Cond.selects RX12 yX12_onward yX12_onward ∈ gt := gt_in (tp6 _ (List.mem_of_getElem? (i := 13) rfl)) rfl
theorem wp6_14 : Cond.selects RX12 yX12_change yX12_change ∈ gt := gt_in (tp6 _ (List.mem_of_getElem? (i := 14) rfl)) rfl
theorem wp6_15 : Cond.selects RX12 yX12_mayBore yX12_mayBore ∈ gt := gt_in (tp6 _ (List.mem_of_getElem? (i := 15) rfl)) rfl
theorem wp7_0 : Cond.selects RX12 yX12_steps yX12_steps ∈ gt := gt_in (tp7 _ (List.mem_of_getElem? (i := 0) rfl)) rfl
theorem wp7_1 : Cond.selects RX12 yX12_better yX12_better ∈ gt := gt_in (tp7 _ (List.mem_of_getElem? (i := 1) rfl)) rfl
theorem wp7_2 : Cond.selects RX12 yX12_turnedTo yX12_turnedTo ∈ gt := gt_in (tp7 _ (List.mem_of_getElem? (i := 2) rfl)) rfl
theorem wp7_3 : Cond.selects RX12 yX12_boresOf yX12_boresOf ∈ gt := gt_in (tp7 _ (List.mem_of_getElem? (i := 3) rfl)) rfl
theorem wp7_4 : Cond.selects RX12 yX12_turnedAt yX12_turnedAt ∈ gt := gt_in (tp7 _ (List.mem_of_getElem? (i := 4) rfl)) rfl
theorem wp7_5 : Cond.selects RX12 yX12_bestAt yX12_bestAt ∈ gt := gt_in (tp7 _ (List.mem_of_getElem? (i := 5) rfl)) rfl
theorem wp7_6 : Cond.selects RX12 yX12_latestOf yX12_latestOf ∈ gt := gt_in (tp7 _ (List.mem_of_getElem? (i := 6) rfl)) rfl
theorem inX0 : ∀ w ∈ u_ws RX0 TX0 10, w ∈ gt := fun w hw => gt_in ((by decide +kernel : ∀ w ∈ u_ws RX0 TX0 10, w ∈ lw_tbl) w hw) ((by decide +kernel : ∀ w ∈ u_ws RX0 TX0 10, goodWord w = true) w hw)
theorem inX1 : ∀ w ∈ u_ws RX1 TX1 5, w ∈ gt := fun w hw => gt_in ((by decide +kernel : ∀ w ∈ u_ws RX1 TX1 5, w ∈ lw_tbl) w hw) ((by decide +kernel : ∀ w ∈ u_ws RX1 TX1 5, goodWord w = true) w hw)
theorem inX2 : ∀ w ∈ u_ws RX2 TX2 8, w ∈ gt := fun w hw => gt_in ((by decide +kernel : ∀ w ∈ u_ws RX2 TX2 8, w ∈ lw_tbl) w hw) ((by decide +kernel : ∀ w ∈ u_ws RX2 TX2 8, goodWord w = true) w hw)
theorem inX3 : ∀ w ∈ u_ws RX3 TX3 8, w ∈ gt := fun w hw => gt_in ((by decide +kernel : ∀ w ∈ u_ws RX3 TX3 8, w ∈ lw_tbl) w hw) ((by decide +kernel : ∀ w ∈ u_ws RX3 TX3 8, goodWord w = true) w hw)
theorem inX4 : ∀ w ∈ u_ws RX4 TX4 11, w ∈ gt := fun w hw => gt_in ((by decide +kernel : ∀ w ∈ u_ws RX4 TX4 11, w ∈ lw_tbl) w hw) ((by decide +kernel : ∀ w ∈ u_ws RX4 TX4 11, goodWord w = true) w hw)
theorem inX5 : ∀ w ∈ u_ws RX5 TX5 3, w ∈ gt := fun w hw => gt_in ((by decide +kernel : ∀ w ∈ u_ws RX5 TX5 3, w ∈ lw_tbl) w hw) ((by decide +kernel : ∀ w ∈ u_ws RX5 TX5 3, goodWord w = true) w hw)
theorem inX6 : ∀ w ∈ u_ws RX6 TX6 13, w ∈ gt := fun w hw => gt_in ((by decide +kernel : ∀ w ∈ u_ws RX6 TX6 13, w ∈ lw_tbl) w hw) ((by decide +kernel : ∀ w ∈ u_ws RX6 TX6 13, goodWord w = true) w hw)
theorem inX7 : ∀ w ∈ u_ws RX7 TX7 7, w ∈ gt := fun w hw => gt_in ((by decide +kernel : ∀ w ∈ u_ws RX7 TX7 7, w ∈ lw_tbl) w hw) ((by decide +kernel : ∀ w ∈ u_ws RX7 TX7 7, goodWord w = true) w hw)
theorem inX8 : ∀ w ∈ u_ws RX8 TX8 5, w ∈ gt := fun w hw => gt_in ((by decide +kernel : ∀ w ∈ u_ws RX8 TX8 5, w ∈ lw_tbl) w hw) ((by decide +kernel : ∀ w ∈ u_ws RX8 TX8 5, goodWord w = true) w hw)
theorem inX9 : ∀ w ∈ u_ws RX9 TX9 12, w ∈ gt := fun w hw => gt_in ((by decide +kernel : ∀ w ∈ u_ws RX9 TX9 12, w ∈ lw_tbl) w hw) ((by decide +kernel : ∀ w ∈ u_ws RX9 TX9 12, goodWord w = true) w hw)
theorem inX10 : ∀ w ∈ u_ws RX10 TX10 10, w ∈ gt := fun w hw => gt_in ((by decide +kernel : ∀ w ∈ u_ws RX10 TX10 10, w ∈ lw_tbl) w hw) ((by decide +kernel : ∀ w ∈ u_ws RX10 TX10 10, goodWord w = true) w hw)
theorem inX11 : ∀ w ∈ u_ws RX11 TX11 15, w ∈ gt := fun w hw => gt_in ((by decide +kernel : ∀ w ∈ u_ws RX11 TX11 15, w ∈ lw_tbl) w hw) ((by decide +kernel : ∀ w ∈ u_ws RX11 TX11 15, goodWord w = true) w hw)
theorem inX12 : ∀ w ∈ u_ws RX12 TX12 81, w ∈ gt := fun w hw => gt_in ((by decide +kernel : ∀ w ∈ u_ws RX12 TX12 81, w ∈ lw_tbl) w hw) ((by decide +kernel : ∀ w ∈ u_ws RX12 TX12 81, goodWord w = true) w hw)
theorem cls_ok (ci : Nat) (q : vw_C) (h : vwCl[ci]? = some q) : (∀ w ∈ u_ws q.1 q.2.1 q.2.2, w ∈ gt) ∧ ∃ ty : Nat → FieldType, (∀ k, k < q.2.2 → parseFieldDescriptor (q.2.1 k).2.2.1 = some (ty k)) ∧ (∀ a, a < q.2.2 → ∀ b, b < q.2.2 → a ≠ b → (q.2.1 a).2.1 ≠ (q.2.1 b).2.1) := by
  match ci, h with
  | 0, h => cases h; exact ⟨inX0, tyX0, tyX0_ok, nmX0⟩
  | 1, h => cases h; exact ⟨inX1, tyX1, tyX1_ok, nmX1⟩
  | 2, h => cases h; exact ⟨inX2, tyX2, tyX2_ok, nmX2⟩
  | 3, h => cases h; exact ⟨inX3, tyX3, tyX3_ok, nmX3⟩
  | 4, h => cases h; exact ⟨inX4, tyX4, tyX4_ok, nmX4⟩
  | 5, h => cases h; exact ⟨inX5, tyX5, tyX5_ok, nmX5⟩
  | 6, h => cases h; exact ⟨inX6, tyX6, tyX6_ok, nmX6⟩
  | 7, h => cases h; exact ⟨inX7, tyX7, tyX7_ok, nmX7⟩
  | 8, h => cases h; exact ⟨inX8, tyX8, tyX8_ok, nmX8⟩
  | 9, h => cases h; exact ⟨inX9, tyX9, tyX9_ok, nmX9⟩
  | 10, h => cases h; exact ⟨inX10, tyX10, tyX10_ok, nmX10⟩
  | 11, h => cases h; exact ⟨inX11, tyX11, tyX11_ok, nmX11⟩
  | 12, h => cases h; exact ⟨inX12, tyX12, tyX12_ok, nmX12⟩
  | k + 13, h => simp [vwCl] at h
