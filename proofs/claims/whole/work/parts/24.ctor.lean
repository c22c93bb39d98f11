theorem kB_30 : (Int8.ofInt 30).toInt32 = 30 := by decide +kernel
theorem kS_192 : (Int16.ofInt 192).toInt32 = 192 := by decide +kernel
theorem fp_X3_9 : FP RX3 9 3 2 .int := ⟨_, _, _, rfl, by decide, w2_176, rfl, by decide +kernel⟩
theorem fp_X3_15 : FP RX3 15 3 3 .int := ⟨_, _, _, rfl, by decide, w2_178, rfl, by decide +kernel⟩
theorem fp_X7_9 : FP RX7 9 7 0 .int := ⟨_, _, _, rfl, by decide, w2_60, rfl, by decide +kernel⟩
theorem ff_X0_9 : FF RX0 9 0 1 (.array .int) := ⟨_, _, _, rfl, by decide, w3_41, rfl, by decide +kernel, rfl⟩
theorem ff_X0_15 : FF RX0 15 0 2 (.array .int) := ⟨_, _, _, rfl, by decide, w3_42, rfl, by decide +kernel, rfl⟩
theorem ff_X0_18 : FF RX0 18 0 3 (.array .int) := ⟨_, _, _, rfl, by decide, w3_43, rfl, by decide +kernel, rfl⟩
theorem ff_X0_21 : FF RX0 21 0 4 (.array .int) := ⟨_, _, _, rfl, by decide, w3_44, rfl, by decide +kernel, rfl⟩
theorem ff_X0_24 : FF RX0 24 0 0 (.object RX1) := ⟨_, _, _, rfl, by decide, w3_40, rfl, by decide +kernel, rfl⟩
theorem ff_X1_11 : FF RX1 11 1 0 (.array (.object RX7)) := ⟨_, _, _, rfl, by decide, w2_99, rfl, by decide +kernel, rfl⟩
theorem ff_X1_17 : FF RX1 17 1 2 (.array .int) := ⟨_, _, _, rfl, by decide, w2_107, rfl, by decide +kernel, rfl⟩
theorem ff_X1_21 : FF RX1 21 1 4 (.array .boolean) := ⟨_, _, _, rfl, by decide, w2_119, rfl, by decide +kernel, rfl⟩
theorem ff_X2_9 : FF RX2 9 2 2 (.array .int) := ⟨_, _, _, rfl, by decide, w2_139, rfl, by decide +kernel, rfl⟩
theorem ff_X2_15 : FF RX2 15 2 3 (.array .int) := ⟨_, _, _, rfl, by decide, w2_140, rfl, by decide +kernel, rfl⟩
theorem ff_X2_18 : FF RX2 18 2 5 (.array .int) := ⟨_, _, _, rfl, by decide, w2_143, rfl, by decide +kernel, rfl⟩
theorem ff_X2_21 : FF RX2 21 2 0 (.object RX6) := ⟨_, _, _, rfl, by decide, w2_137, rfl, by decide +kernel, rfl⟩
theorem ff_X2_25 : FF RX2 25 2 1 (.object RX1) := ⟨_, _, _, rfl, by decide, w2_138, rfl, by decide +kernel, rfl⟩
theorem ff_X3_20 : FF RX3 20 3 4 (.array (.array .int)) := ⟨_, _, _, rfl, by decide, w2_180, rfl, by decide +kernel, rfl⟩
theorem ff_X3_23 : FF RX3 23 3 5 (.array .int) := ⟨_, _, _, rfl, by decide, w2_181, rfl, by decide +kernel, rfl⟩
theorem ff_X3_27 : FF RX3 27 3 6 (.array .int) := ⟨_, _, _, rfl, by decide, w2_182, rfl, by decide +kernel, rfl⟩
theorem ff_X3_30 : FF RX3 30 3 0 (.object RX6) := ⟨_, _, _, rfl, by decide, w2_174, rfl, by decide +kernel, rfl⟩
theorem ff_X3_34 : FF RX3 34 3 1 (.object RX2) := ⟨_, _, _, rfl, by decide, w2_175, rfl, by decide +kernel, rfl⟩
theorem ff_X4_11 : FF RX4 11 4 0 (.array .int) := ⟨_, _, _, rfl, by decide, w1_144, rfl, by decide +kernel, rfl⟩
theorem ff_X4_15 : FF RX4 15 4 1 (.array .int) := ⟨_, _, _, rfl, by decide, w1_145, rfl, by decide +kernel, rfl⟩
theorem ff_X4_18 : FF RX4 18 4 2 (.array .int) := ⟨_, _, _, rfl, by decide, w1_146, rfl, by decide +kernel, rfl⟩
theorem ff_X4_21 : FF RX4 21 4 4 (.array .int) := ⟨_, _, _, rfl, by decide, w1_148, rfl, by decide +kernel, rfl⟩
theorem ff_X4_24 : FF RX4 24 4 5 (.array .int) := ⟨_, _, _, rfl, by decide, w1_149, rfl, by decide +kernel, rfl⟩
theorem ff_X4_27 : FF RX4 27 4 6 (.array .long) := ⟨_, _, _, rfl, by decide, w1_151, rfl, by decide +kernel, rfl⟩
theorem ff_X4_31 : FF RX4 31 4 7 (.array .int) := ⟨_, _, _, rfl, by decide, w1_152, rfl, by decide +kernel, rfl⟩
theorem ff_X5_18 : FF RX5 18 5 0 (.object RX10) := ⟨_, _, _, rfl, by decide, w1_184, rfl, by decide +kernel, rfl⟩
theorem ff_X6_13 : FF RX6 13 6 3 (.array (.array .int)) := ⟨_, _, _, rfl, by decide, w2_3, rfl, by decide +kernel, rfl⟩
theorem ff_X6_16 : FF RX6 16 6 4 (.array .int) := ⟨_, _, _, rfl, by decide, w2_7, rfl, by decide +kernel, rfl⟩
theorem ff_X6_20 : FF RX6 20 6 5 (.array .int) := ⟨_, _, _, rfl, by decide, w2_8, rfl, by decide +kernel, rfl⟩
theorem ff_X6_23 : FF RX6 23 6 6 (.array .int) := ⟨_, _, _, rfl, by decide, w2_9, rfl, by decide +kernel, rfl⟩
theorem ff_X6_26 : FF RX6 26 6 7 (.array .int) := ⟨_, _, _, rfl, by decide, w2_11, rfl, by decide +kernel, rfl⟩
theorem ff_X6_29 : FF RX6 29 6 8 (.array .int) := ⟨_, _, _, rfl, by decide, w2_13, rfl, by decide +kernel, rfl⟩
theorem ff_X7_21 : FF RX7 21 7 6 (.array .int) := ⟨_, _, _, rfl, by decide, w2_82, rfl, by decide +kernel, rfl⟩
theorem ff_X8_11 : FF RX8 11 8 3 (.array (.array .int)) := ⟨_, _, _, rfl, by decide, w3_19, rfl, by decide +kernel, rfl⟩
theorem ff_X8_16 : FF RX8 16 8 4 (.array .int) := ⟨_, _, _, rfl, by decide, w3_21, rfl, by decide +kernel, rfl⟩
theorem ff_X8_20 : FF RX8 20 8 0 (.object RX6) := ⟨_, _, _, rfl, by decide, w3_16, rfl, by decide +kernel, rfl⟩
theorem ff_X8_24 : FF RX8 24 8 1 (.object RX1) := ⟨_, _, _, rfl, by decide, w3_17, rfl, by decide +kernel, rfl⟩
theorem ff_X8_28 : FF RX8 28 8 2 (.object RX2) := ⟨_, _, _, rfl, by decide, w3_18, rfl, by decide +kernel, rfl⟩
theorem ff_X9_9 : FF RX9 9 9 1 (.array .int) := ⟨_, _, _, rfl, by decide, w2_210, rfl, by decide +kernel, rfl⟩
theorem ff_X9_15 : FF RX9 15 9 5 (.array .int) := ⟨_, _, _, rfl, by decide, w2_214, rfl, by decide +kernel, rfl⟩
theorem ff_X9_18 : FF RX9 18 9 6 (.array .int) := ⟨_, _, _, rfl, by decide, w2_215, rfl, by decide +kernel, rfl⟩
theorem ff_X9_21 : FF RX9 21 9 9 (.array .int) := ⟨_, _, _, rfl, by decide, w2_218, rfl, by decide +kernel, rfl⟩
theorem ff_X9_28 : FF RX9 28 9 0 (.object RX6) := ⟨_, _, _, rfl, by decide, w2_209, rfl, by decide +kernel, rfl⟩
theorem ci_X1_25 : CIN RX1 25 yX7_init cX7_init 1 0 := ⟨fun U h => h.2.2.2.1, w2_57, w1_12, w2_58, rfl, by decide +kernel, by decide⟩
theorem ci_X5_11 : CIN RX5 11 yX4_init cX4_init 1 0 := ⟨fun U h => h.2.1, w1_141, w1_8, w1_142, rfl, by decide +kernel, by decide⟩
theorem cv_X6_45 : CV RX6 45 RX6 yX6_renew cX6_renew 5 none 2 := ⟨w1_204, w1_205, w1_206, w1_9, w1_207, by decide +kernel, by decide⟩
theorem av_i : ∀ (S : Nat) (Rf : Nat → Nat → Nat) (M : Mm) (i j : Nat), M.1 i j = 0 → M.2 i j = 0 → av S Rf M 0 i j = defaultValue .int := fun S Rf M i j h _ => by
  show Value.int (M.1 i j) = _
  rw [h]
  rfl
theorem av_z : ∀ (S : Nat) (Rf : Nat → Nat → Nat) (M : Mm) (i j : Nat), M.1 i j = 0 → M.2 i j = 0 → av S Rf M 1 i j = defaultValue .boolean := fun S Rf M i j h _ => by
  show Value.int (M.1 i j) = _
  rw [h]
  rfl
theorem av_l : ∀ (S : Nat) (Rf : Nat → Nat → Nat) (M : Mm) (i j : Nat), M.1 i j = 0 → M.2 i j = 0 → av S Rf M 2 i j = defaultValue .long := fun S Rf M i j _ h => by
  show Value.long (M.2 i j) = _
  rw [h]
  rfl
def mm_k6 (M : Mm) : Mm := M
def rf_k6 (Rf : Nat → Nat → Nat) : Nat → Nat → Nat := (up2 (up2 (up2 (up2 (up2 (up2 (up2 Rf 6 0 7) 6 1 8) 6 2 9) 6 4 10) 6 5 11) 6 6 12) 6 7 13)
theorem zr_k6 {M : Mm} {Rf : Nat → Nat → Nat} (hz : Zr 6 M Rf) : Zr 14 (mm_k6 M) (rf_k6 Rf) := by
  replace hz := Zr_mono hz (by decide : 6 ≤ 7)
  exact (Zr_up (Zr_mono (Zr_up (Zr_mono (Zr_up (Zr_mono (Zr_up (Zr_mono (Zr_up (Zr_mono (Zr_up (Zr_mono (Zr_up (Zr_mono hz (by decide : 7 ≤ 8)) (by decide)) (by decide : 8 ≤ 9)) (by decide)) (by decide : 9 ≤ 10)) (by decide)) (by decide : 10 ≤ 11)) (by decide)) (by decide : 11 ≤ 12)) (by decide)) (by decide : 12 ≤ 13)) (by decide)) (by decide : 13 ≤ 14)) (by decide))
theorem ct_k6 {l0 : Launch} {E : En} {d : Nat} {Rf : Nat → Nat → Nat} {M : Mm} (hd : 1 ≤ d) (hz : Zr 6 M Rf) : Ct l0 E yX4_init cX4_init 1 none d 7 424 [rr E.1 6] true 7 Rf M 14 (rf_k6 Rf) none (mm_k6 M) := by
  obtain ⟨d, rfl⟩ := Nat.exists_eq_add_of_le' hd
  have hz0 := hz
  replace hz := Zr_mono hz (by decide : 6 ≤ 7)
  refine Ct.of pnX4 (Nat.le_of_ble_eq_true rfl) (fun g hg hr hnm => ?_)
  replace hg : Ok g l0 E cX4_init RX4 1 (d + 1) 7 424 := hg
  show WG g E 1 7 Rf true 0 0 0 [(0, rr E.1 6)] [] M
  refine g_rload_n hg dX4_init_0 rfl 0 rfl ?_
  refine g_objI hg wx1_143 (Nat.le_of_ble_eq_true rfl) dX4_init_1 ?_
  refine g_rload_n hg dX4_init_4 rfl 0 rfl ?_
  refine g_bipush hg dX4_init_5 kB_96 ?_
  refine g_newa (t := 0) (ty := .int) (N := 96) hg rfl (fun _ => rfl) (fun _ _ h => h) ly7 av_i wx1_129 (by decide) (by decide) (by decide) hz (by decide) dX4_init_7 ?_
  refine g_putF hg hnm ff_X4_11 ly6 rfl (by decide) (by decide) rfl rfl dX4_init_9 ?_
  refine g_rload_n hg dX4_init_12 rfl 0 rfl ?_
  refine g_bipush hg dX4_init_13 kB_96 ?_
  refine g_newa (t := 0) (ty := .int) (N := 96) hg rfl (fun _ => rfl) (fun _ _ h => h) ly8 av_i wx1_129 (by decide) (by decide) (by decide) (Zr_up (Zr_mono hz (by decide : 7 ≤ 8)) (by decide)) (by decide) dX4_init_15 ?_
  refine g_putF hg hnm ff_X4_15 ly6 rfl (by decide) (by decide) rfl rfl dX4_init_17 ?_
  refine g_rload_n hg dX4_init_20 rfl 0 rfl ?_
  refine g_bipush hg dX4_init_21 kB_96 ?_
  refine g_newa (t := 0) (ty := .int) (N := 96) hg rfl (fun _ => rfl) (fun _ _ h => h) ly9 av_i wx1_129 (by decide) (by decide) (by decide) (Zr_up (Zr_mono (Zr_up (Zr_mono hz (by decide : 7 ≤ 8)) (by decide)) (by decide : 8 ≤ 9)) (by decide)) (by decide) dX4_init_23 ?_
  refine g_putF hg hnm ff_X4_18 ly6 rfl (by decide) (by decide) rfl rfl dX4_init_25 ?_
  refine g_rload_n hg dX4_init_28 rfl 0 rfl ?_
  refine g_bipush hg dX4_init_29 kB_16 ?_
  refine g_newa (t := 0) (ty := .int) (N := 16) hg rfl (fun _ => rfl) (fun _ _ h => h) ly10 av_i wx1_129 (by decide) (by decide) (by decide) (Zr_up (Zr_mono (Zr_up (Zr_mono (Zr_up (Zr_mono hz (by decide : 7 ≤ 8)) (by decide)) (by decide : 8 ≤ 9)) (by decide)) (by decide : 9 ≤ 10)) (by decide)) (by decide) dX4_init_31 ?_
  refine g_putF hg hnm ff_X4_21 ly6 rfl (by decide) (by decide) rfl rfl dX4_init_33 ?_
  refine g_rload_n hg dX4_init_36 rfl 0 rfl ?_
  refine g_bipush hg dX4_init_37 kB_16 ?_
  refine g_newa (t := 0) (ty := .int) (N := 16) hg rfl (fun _ => rfl) (fun _ _ h => h) ly11 av_i wx1_129 (by decide) (by decide) (by decide) (Zr_up (Zr_mono (Zr_up (Zr_mono (Zr_up (Zr_mono (Zr_up (Zr_mono hz (by decide : 7 ≤ 8)) (by decide)) (by decide : 8 ≤ 9)) (by decide)) (by decide : 9 ≤ 10)) (by decide)) (by decide : 10 ≤ 11)) (by decide)) (by decide) dX4_init_39 ?_
  refine g_putF hg hnm ff_X4_24 ly6 rfl (by decide) (by decide) rfl rfl dX4_init_41 ?_
  refine g_rload_n hg dX4_init_44 rfl 0 rfl ?_
  refine g_bipush hg dX4_init_45 kB_8 ?_
  refine g_newa (t := 2) (ty := .long) (N := 8) hg rfl (fun _ => rfl) (fun _ _ h => h) ly12 av_l wx1_130 (by decide) (by decide) (by decide) (Zr_up (Zr_mono (Zr_up (Zr_mono (Zr_up (Zr_mono (Zr_up (Zr_mono (Zr_up (Zr_mono hz (by decide : 7 ≤ 8)) (by decide)) (by decide : 8 ≤ 9)) (by decide)) (by decide : 9 ≤ 10)) (by decide)) (by decide : 10 ≤ 11)) (by decide)) (by decide : 11 ≤ 12)) (by decide)) (by decide) dX4_init_47 ?_
  refine g_putF hg hnm ff_X4_27 ly6 rfl (by decide) (by decide) rfl rfl dX4_init_49 ?_
  refine g_rload_n hg dX4_init_52 rfl 0 rfl ?_
  refine g_bipush hg dX4_init_53 kB_96 ?_
  refine g_newa (t := 0) (ty := .int) (N := 96) hg rfl (fun _ => rfl) (fun _ _ h => h) ly13 av_i wx1_129 (by decide) (by decide) (by decide) (Zr_up (Zr_mono (Zr_up (Zr_mono (Zr_up (Zr_mono (Zr_up (Zr_mono (Zr_up (Zr_mono (Zr_up (Zr_mono hz (by decide : 7 ≤ 8)) (by decide)) (by decide : 8 ≤ 9)) (by decide)) (by decide : 9 ≤ 10)) (by decide)) (by decide : 10 ≤ 11)) (by decide)) (by decide : 11 ≤ 12)) (by decide)) (by decide : 12 ≤ 13)) (by decide)) (by decide) dX4_init_55 ?_
  refine g_putF hg hnm ff_X4_31 ly6 rfl (by decide) (by decide) rfl rfl dX4_init_57 ?_
  exact g_vret hg hr dX4_init_60
def mm_k14 (M : Mm) : Mm := M
def rf_k14 (Rf : Nat → Nat → Nat) : Nat → Nat → Nat := (up2 (up2 (up2 (up2 (up2 (up2 (up2 Rf 14 0 15) 14 1 16) 14 2 17) 14 4 18) 14 5 19) 14 6 20) 14 7 21)
theorem zr_k14 {M : Mm} {Rf : Nat → Nat → Nat} (hz : Zr 14 M Rf) : Zr 22 (mm_k14 M) (rf_k14 Rf) := by
  replace hz := Zr_mono hz (by decide : 14 ≤ 15)
  exact (Zr_up (Zr_mono (Zr_up (Zr_mono (Zr_up (Zr_mono (Zr_up (Zr_mono (Zr_up (Zr_mono (Zr_up (Zr_mono (Zr_up (Zr_mono hz (by decide : 15 ≤ 16)) (by decide)) (by decide : 16 ≤ 17)) (by decide)) (by decide : 17 ≤ 18)) (by decide)) (by decide : 18 ≤ 19)) (by decide)) (by decide : 19 ≤ 20)) (by decide)) (by decide : 20 ≤ 21)) (by decide)) (by decide : 21 ≤ 22)) (by decide))
theorem ct_k14 {l0 : Launch} {E : En} {d : Nat} {Rf : Nat → Nat → Nat} {M : Mm} (hd : 1 ≤ d) (hz : Zr 14 M Rf) : Ct l0 E yX4_init cX4_init 1 none d 7 424 [rr E.1 14] true 15 Rf M 22 (rf_k14 Rf) none (mm_k14 M) := by
  obtain ⟨d, rfl⟩ := Nat.exists_eq_add_of_le' hd
  have hz0 := hz
  replace hz := Zr_mono hz (by decide : 14 ≤ 15)
  refine Ct.of pnX4 (Nat.le_of_ble_eq_true rfl) (fun g hg hr hnm => ?_)
  replace hg : Ok g l0 E cX4_init RX4 1 (d + 1) 7 424 := hg
  show WG g E 1 15 Rf true 0 0 0 [(0, rr E.1 14)] [] M
  refine g_rload_n hg dX4_init_0 rfl 0 rfl ?_
  refine g_objI hg wx1_143 (Nat.le_of_ble_eq_true rfl) dX4_init_1 ?_
  refine g_rload_n hg dX4_init_4 rfl 0 rfl ?_
  refine g_bipush hg dX4_init_5 kB_96 ?_
  refine g_newa (t := 0) (ty := .int) (N := 96) hg rfl (fun _ => rfl) (fun _ _ h => h) ly15 av_i wx1_129 (by decide) (by decide) (by decide) hz (by decide) dX4_init_7 ?_
  refine g_putF hg hnm ff_X4_11 ly14 rfl (by decide) (by decide) rfl rfl dX4_init_9 ?_
  refine g_rload_n hg dX4_init_12 rfl 0 rfl ?_
  refine g_bipush hg dX4_init_13 kB_96 ?_
  refine g_newa (t := 0) (ty := .int) (N := 96) hg rfl (fun _ => rfl) (fun _ _ h => h) ly16 av_i wx1_129 (by decide) (by decide) (by decide) (Zr_up (Zr_mono hz (by decide : 15 ≤ 16)) (by decide)) (by decide) dX4_init_15 ?_
  refine g_putF hg hnm ff_X4_15 ly14 rfl (by decide) (by decide) rfl rfl dX4_init_17 ?_
  refine g_rload_n hg dX4_init_20 rfl 0 rfl ?_
  refine g_bipush hg dX4_init_21 kB_96 ?_
  refine g_newa (t := 0) (ty := .int) (N := 96) hg rfl (fun _ => rfl) (fun _ _ h => h) ly17 av_i wx1_129 (by decide) (by decide) (by decide) (Zr_up (Zr_mono (Zr_up (Zr_mono hz (by decide : 15 ≤ 16)) (by decide)) (by decide : 16 ≤ 17)) (by decide)) (by decide) dX4_init_23 ?_
  refine g_putF hg hnm ff_X4_18 ly14 rfl (by decide) (by decide) rfl rfl dX4_init_25 ?_
  refine g_rload_n hg dX4_init_28 rfl 0 rfl ?_
  refine g_bipush hg dX4_init_29 kB_16 ?_
  refine g_newa (t := 0) (ty := .int) (N := 16) hg rfl (fun _ => rfl) (fun _ _ h => h) ly18 av_i wx1_129 (by decide) (by decide) (by decide) (Zr_up (Zr_mono (Zr_up (Zr_mono (Zr_up (Zr_mono hz (by decide : 15 ≤ 16)) (by decide)) (by decide : 16 ≤ 17)) (by decide)) (by decide : 17 ≤ 18)) (by decide)) (by decide) dX4_init_31 ?_
  refine g_putF hg hnm ff_X4_21 ly14 rfl (by decide) (by decide) rfl rfl dX4_init_33 ?_
  refine g_rload_n hg dX4_init_36 rfl 0 rfl ?_
  refine g_bipush hg dX4_init_37 kB_16 ?_
  refine g_newa (t := 0) (ty := .int) (N := 16) hg rfl (fun _ => rfl) (fun _ _ h => h) ly19 av_i wx1_129 (by decide) (by decide) (by decide) (Zr_up (Zr_mono (Zr_up (Zr_mono (Zr_up (Zr_mono (Zr_up (Zr_mono hz (by decide : 15 ≤ 16)) (by decide)) (by decide : 16 ≤ 17)) (by decide)) (by decide : 17 ≤ 18)) (by decide)) (by decide : 18 ≤ 19)) (by decide)) (by decide) dX4_init_39 ?_
  refine g_putF hg hnm ff_X4_24 ly14 rfl (by decide) (by decide) rfl rfl dX4_init_41 ?_
  refine g_rload_n hg dX4_init_44 rfl 0 rfl ?_
  refine g_bipush hg dX4_init_45 kB_8 ?_
  refine g_newa (t := 2) (ty := .long) (N := 8) hg rfl (fun _ => rfl) (fun _ _ h => h) ly20 av_l wx1_130 (by decide) (by decide) (by decide) (Zr_up (Zr_mono (Zr_up (Zr_mono (Zr_up (Zr_mono (Zr_up (Zr_mono (Zr_up (Zr_mono hz (by decide : 15 ≤ 16)) (by decide)) (by decide : 16 ≤ 17)) (by decide)) (by decide : 17 ≤ 18)) (by decide)) (by decide : 18 ≤ 19)) (by decide)) (by decide : 19 ≤ 20)) (by decide)) (by decide) dX4_init_47 ?_
  refine g_putF hg hnm ff_X4_27 ly14 rfl (by decide) (by decide) rfl rfl dX4_init_49 ?_
  refine g_rload_n hg dX4_init_52 rfl 0 rfl ?_
  refine g_bipush hg dX4_init_53 kB_96 ?_
  refine g_newa (t := 0) (ty := .int) (N := 96) hg rfl (fun _ => rfl) (fun _ _ h => h) ly21 av_i wx1_129 (by decide) (by decide) (by decide) (Zr_up (Zr_mono (Zr_up (Zr_mono (Zr_up (Zr_mono (Zr_up (Zr_mono (Zr_up (Zr_mono (Zr_up (Zr_mono hz (by decide : 15 ≤ 16)) (by decide)) (by decide : 16 ≤ 17)) (by decide)) (by decide : 17 ≤ 18)) (by decide)) (by decide : 18 ≤ 19)) (by decide)) (by decide : 19 ≤ 20)) (by decide)) (by decide : 20 ≤ 21)) (by decide)) (by decide) dX4_init_55 ?_
  refine g_putF hg hnm ff_X4_31 ly14 rfl (by decide) (by decide) rfl rfl dX4_init_57 ?_
  exact g_vret hg hr dX4_init_60
def mm_kr (M : Mm) : Mm := (mm_k6 M)
def rf_kr (Rf : Nat → Nat → Nat) : Nat → Nat → Nat := (up2 (up2 (rf_k6 Rf) 5 1 6) 5 0 3)
theorem zr_kr {M : Mm} {Rf : Nat → Nat → Nat} (hz : Zr 5 M Rf) : Zr 14 (mm_kr M) (rf_kr Rf) := by
  replace hz := Zr_mono hz (by decide : 5 ≤ 6)
  exact (Zr_up (Zr_up (zr_k6 hz) (by decide)) (by decide))
theorem ct_kr {l0 : Launch} {E : En} {d : Nat} {Rf : Nat → Nat → Nat} {M : Mm} (hd : 2 ≤ d) (hz : Zr 5 M Rf) : Ct l0 E yX5_init cX5_init 2 none d 8 435 [rr E.1 5, rr E.1 3] true 6 Rf M 14 (rf_kr Rf) none (mm_kr M) := by
  obtain ⟨d, rfl⟩ := Nat.exists_eq_add_of_le' hd
  have hz0 := hz
  replace hz := Zr_mono hz (by decide : 5 ≤ 6)
  refine Ct.of pnX5 (Nat.le_of_ble_eq_true rfl) (fun g hg hr hnm => ?_)
  replace hg : Ok g l0 E cX5_init RX5 2 (d + 2) 8 435 := hg
  show WG g E 2 6 Rf true 0 0 0 [(0, rr E.1 5), (1, rr E.1 3)] [] M
  refine g_rload_n hg dX5_init_0 rfl 0 rfl ?_
  refine g_objI hg wx1_137 (Nat.le_of_ble_eq_true rfl) dX5_init_1 ?_
  refine g_rload_n hg dX5_init_4 rfl 0 rfl ?_
  refine g_new (ci := 4) hg rfl ly6 ⟨wx1_138, wx1_139, w1_8⟩ hz (by decide) dX5_init_5 ?_
  refine g_dup hg dX5_init_8 rfl ?_
  refine g_callIN (As := []) (rest := [rr E.1 6, rr E.1 5]) hg (ct_k6 (by omega) hz) ci_X5_11 rfl rfl (Nat.le_of_ble_eq_true rfl) (by decide) dX5_init_9 ?_
  refine g_putR hg fp_X5_12 ly5 rfl (by decide) (by decide) rfl rfl dX5_init_12 ?_
  refine g_rload_n hg dX5_init_15 rfl 0 rfl ?_
  refine g_rload_n hg dX5_init_16 rfl 1 rfl ?_
  refine g_putF hg hnm ff_X5_18 ly5 rfl (by decide) (by decide) rfl rfl dX5_init_17 ?_
  exact g_vret hg hr dX5_init_20
def rf_land (Rf : Nat → Nat → Nat) : Nat → Nat → Nat := (up2 (up2 (up2 (up2 (up2 (up2 (upR Rf 23 5) 22 3 23) 22 4 29) 22 5 30) 22 6 31) 22 7 32) 22 8 33)
theorem rfok_land0 {M : Mm} {Rf : Nat → Nat → Nat} (hz : Zr 22 M Rf) : RfOk 22 34 (14, 6) (rf_land Rf) := fun id k h1 h2 hk => by
  have e : rf_land Rf id k = rf_land (fun _ _ => 0) id k := by simp only [rf_land, up2, upR, (hz id h1 k).2.2]
  rw [e, rT_sw (14, 6) (0, 0) id k (by omega) (by omega)]
  exact (by decide +kernel : ∀ id, id < 34 → ∀ k, k < 96 → 22 ≤ id → rf_land (fun _ _ => 0) id k = rT (0, 0) id k) id h2 k hk h1
theorem ct_land {l0 : Launch} {E : En} {d : Nat} {Rf : Nat → Nat → Nat} {M : Mm} (hd : 5 ≤ d) (hz : Zr 22 M Rf) {ML : Mm} (hML : sX6_renew 4 4 (sI (sI (sI (sI M 22 9 5) 22 10 20) 22 11 30) 22 12 60) = some ML) : Ct l0 E yX6_init cX6_init 1 none d 11 645 [rr E.1 22] true 23 Rf M 34 (rf_land Rf) none ML := by
  obtain ⟨d, rfl⟩ := Nat.exists_eq_add_of_le' hd
  have hz0 := hz
  replace hz := Zr_mono hz (by decide : 22 ≤ 23)
  refine Ct.of pnX6 (Nat.le_of_ble_eq_true rfl) (fun g hg hr hnm => ?_)
  replace hg : Ok g l0 E cX6_init RX6 1 (d + 5) 11 645 := hg
  show WG g E 1 23 Rf true 0 0 0 [(0, rr E.1 22)] [] M
  refine g_rload_n hg dX6_init_0 rfl 0 rfl ?_
  refine g_objI hg wx1_201 (Nat.le_of_ble_eq_true rfl) dX6_init_1 ?_
  refine g_rload_n hg dX6_init_4 rfl 0 rfl ?_
  refine g_iconst hg dX6_init_5 kI_5 ?_
  refine g_bipush hg dX6_init_6 kB_64 ?_
  refine g_mna (N := 5) (K := 64) hg ly23 (by decide +kernel) wx1_202 wx1_129 (by decide) (by decide) (by decide) (by decide) (by decide) hz (by decide) dX6_init_8 ?_
  refine g_putF hg hnm ff_X6_13 ly22 rfl (by decide) (by decide) rfl rfl dX6_init_12 ?_
  refine g_rload_n hg dX6_init_15 rfl 0 rfl ?_
  refine g_bipush hg dX6_init_16 kB_64 ?_
  refine g_newa (t := 0) (ty := .int) (N := 64) hg rfl (fun _ => rfl) (fun _ _ h => h) ly29 av_i wx1_129 (by decide) (by decide) (by decide) (Zr_up (Zr_upR (Zr_mono hz (by decide : 23 ≤ 29)) (by decide)) (by decide)) (by decide) dX6_init_18 ?_
  refine g_putF hg hnm ff_X6_16 ly22 rfl (by decide) (by decide) rfl rfl dX6_init_20 ?_
  refine g_rload_n hg dX6_init_23 rfl 0 rfl ?_
  refine g_bipush hg dX6_init_24 kB_64 ?_
  refine g_newa (t := 0) (ty := .int) (N := 64) hg rfl (fun _ => rfl) (fun _ _ h => h) ly30 av_i wx1_129 (by decide) (by decide) (by decide) (Zr_up (Zr_mono (Zr_up (Zr_upR (Zr_mono hz (by decide : 23 ≤ 29)) (by decide)) (by decide)) (by decide : 29 ≤ 30)) (by decide)) (by decide) dX6_init_26 ?_
  refine g_putF hg hnm ff_X6_20 ly22 rfl (by decide) (by decide) rfl rfl dX6_init_28 ?_
  refine g_rload_n hg dX6_init_31 rfl 0 rfl ?_
  refine g_bipush hg dX6_init_32 kB_64 ?_
  refine g_newa (t := 0) (ty := .int) (N := 64) hg rfl (fun _ => rfl) (fun _ _ h => h) ly31 av_i wx1_129 (by decide) (by decide) (by decide) (Zr_up (Zr_mono (Zr_up (Zr_mono (Zr_up (Zr_upR (Zr_mono hz (by decide : 23 ≤ 29)) (by decide)) (by decide)) (by decide : 29 ≤ 30)) (by decide)) (by decide : 30 ≤ 31)) (by decide)) (by decide) dX6_init_34 ?_
  refine g_putF hg hnm ff_X6_23 ly22 rfl (by decide) (by decide) rfl rfl dX6_init_36 ?_
  refine g_rload_n hg dX6_init_39 rfl 0 rfl ?_
  refine g_bipush hg dX6_init_40 kB_64 ?_
  refine g_newa (t := 0) (ty := .int) (N := 64) hg rfl (fun _ => rfl) (fun _ _ h => h) ly32 av_i wx1_129 (by decide) (by decide) (by decide) (Zr_up (Zr_mono (Zr_up (Zr_mono (Zr_up (Zr_mono (Zr_up (Zr_upR (Zr_mono hz (by decide : 23 ≤ 29)) (by decide)) (by decide)) (by decide : 29 ≤ 30)) (by decide)) (by decide : 30 ≤ 31)) (by decide)) (by decide : 31 ≤ 32)) (by decide)) (by decide) dX6_init_42 ?_
  refine g_putF hg hnm ff_X6_26 ly22 rfl (by decide) (by decide) rfl rfl dX6_init_44 ?_
  refine g_rload_n hg dX6_init_47 rfl 0 rfl ?_
  refine g_bipush hg dX6_init_48 kB_64 ?_
  refine g_newa (t := 0) (ty := .int) (N := 64) hg rfl (fun _ => rfl) (fun _ _ h => h) ly33 av_i wx1_129 (by decide) (by decide) (by decide) (Zr_up (Zr_mono (Zr_up (Zr_mono (Zr_up (Zr_mono (Zr_up (Zr_mono (Zr_up (Zr_upR (Zr_mono hz (by decide : 23 ≤ 29)) (by decide)) (by decide)) (by decide : 29 ≤ 30)) (by decide)) (by decide : 30 ≤ 31)) (by decide)) (by decide : 31 ≤ 32)) (by decide)) (by decide : 32 ≤ 33)) (by decide)) (by decide) dX6_init_50 ?_
  refine g_putF hg hnm ff_X6_29 ly22 rfl (by decide) (by decide) rfl rfl dX6_init_52 ?_
  refine g_rload_n hg dX6_init_55 rfl 0 rfl ?_
  refine g_iconst hg dX6_init_56 kI_5 ?_
  refine g_putI hg fp_X6_32 ly22 rfl (by decide) dX6_init_57 ?_
  refine g_rload_n hg dX6_init_60 rfl 0 rfl ?_
  refine g_bipush hg dX6_init_61 kB_20 ?_
  refine g_putI hg fp_X6_36 ly22 rfl (by decide) dX6_init_63 ?_
  refine g_rload_n hg dX6_init_66 rfl 0 rfl ?_
  refine g_bipush hg dX6_init_67 kB_30 ?_
  refine g_putI hg fp_X6_39 ly22 rfl (by decide) dX6_init_69 ?_
  refine g_rload_n hg dX6_init_72 rfl 0 rfl ?_
  refine g_bipush hg dX6_init_73 kB_60 ?_
  refine g_putI hg fp_X6_42 ly22 rfl (by decide) dX6_init_75 ?_
  refine g_rload_n hg dX6_init_78 rfl 0 rfl ?_
  refine g_iconst hg dX6_init_79 kI_4 ?_
  refine g_iconst hg dX6_init_80 kI_4 ?_
  refine g_callVv (d := d + 4) (As := [.int 4, .int 4]) (rest := []) hg (lkX6_renew (kq := (14, 6)) (by omega) (by decide) (rfok_land0 hz0) hML) cv_X6_45 rfl ly22 (by decide) rfl rfl (Nat.le_of_ble_eq_true rfl) (by decide) dX6_init_81 ?_
  exact g_vret hg hr dX6_init_84
def mmN (r : Nat) (M : Mm) : Mm := sI (sI (sI M r 0 (-1)) r 4 (-1)) r 5 (-1)
theorem ct_note {l0 : Launch} {E : En} {d : Nat} {Rf : Nat → Nat → Nat} {M : Mm} {i : Nat} (hi : i < 60) (hd : 1 ≤ d) (hz : Zr (38 + 2 * i) M Rf) : Ct l0 E yX7_init cX7_init 1 none d 1 48 [rr E.1 (38 + 2 * i)] true (38 + 2 * i + 1) Rf M (38 + 2 * i + 1 + 1) (up2 Rf (38 + 2 * i) 6 (38 + 2 * i + 1)) none (mmN (38 + 2 * i) M) := by
  obtain ⟨d, rfl⟩ := Nat.exists_eq_add_of_le' hd
  have hN : isNt (38 + 2 * i) := ⟨i, hi, rfl⟩
  refine Ct.of pnX7 (Nat.le_of_ble_eq_true rfl) (fun g hg hr hnm => ?_)
  replace hg : Ok g l0 E cX7_init RX7 1 (d + 1) 1 48 := hg
  show WG g E 1 (38 + 2 * i + 1) Rf true 0 0 0 [(0, rr E.1 (38 + 2 * i))] [] M
  refine g_rload_n hg dX7_init_0 rfl 0 rfl ?_
  refine g_objI hg wx2_59 (Nat.le_of_ble_eq_true rfl) dX7_init_1 ?_
  refine g_rload_n hg dX7_init_4 rfl 0 rfl ?_
  refine g_iconst hg dX7_init_5 kI_m1 ?_
  refine g_putI hg fp_X7_9 (nt_lay hN) rfl (by omega) dX7_init_6 ?_
  refine g_rload_n hg dX7_init_9 rfl 0 rfl ?_
  refine g_iconst hg dX7_init_10 kI_m1 ?_
  refine g_putI hg fp_X7_15 (nt_lay hN) rfl (by omega) dX7_init_11 ?_
  refine g_rload_n hg dX7_init_14 rfl 0 rfl ?_
  refine g_iconst hg dX7_init_15 kI_m1 ?_
  refine g_putI hg fp_X7_18 (nt_lay hN) rfl (by omega) dX7_init_16 ?_
  refine g_rload_n hg dX7_init_19 rfl 0 rfl ?_
  refine g_bipush hg dX7_init_20 kB_48 ?_
  refine g_newa (t := 0) (ty := .int) (N := 48) hg rfl (fun _ => rfl) (fun _ _ h => h) (nt_lay1 hN) av_i wx1_129 (by decide) (by decide) (by decide) (Zr_sI (Zr_sI (Zr_sI (Zr_mono hz (by omega)) (by omega)) (by omega)) (by omega)) (by decide) dX7_init_22 ?_
  refine g_putF hg hnm ff_X7_21 (nt_lay hN) rfl (by omega) (by omega) rfl rfl dX7_init_24 ?_
  exact g_vret hg hr dX7_init_27
def mmB : Nat → Nat → Mm → Mm
  | 0, _, M => M
  | k + 1, i, M => mmB k (i + 1) (mmN (38 + 2 * i) M)
def rfB : Nat → Nat → (Nat → Nat → Nat) → Nat → Nat → Nat
  | 0, _, Rf => Rf
  | k + 1, i, Rf => rfB k (i + 1) (up2 (up2 Rf (38 + 2 * i) 6 (38 + 2 * i + 1)) 35 i (38 + 2 * i))
theorem zr_B : ∀ (k i : Nat) (M : Mm) (Rf : Nat → Nat → Nat), Zr (38 + 2 * i) M Rf → Zr (38 + 2 * (i + k)) (mmB k i M) (rfB k i Rf)
  | 0, i, M, Rf, h => h
  | k + 1, i, M, Rf, h => by
    have h1 := zr_B k (i + 1) (mmN (38 + 2 * i) M) (up2 (up2 Rf (38 + 2 * i) 6 (38 + 2 * i + 1)) 35 i (38 + 2 * i)) (Zr_up (Zr_up (Zr_sI (Zr_sI (Zr_sI (Zr_mono h (by omega)) (by omega)) (by omega)) (by omega)) (by omega)) (by omega))
    rw [show i + (k + 1) = i + 1 + k by omega]
    exact h1
theorem lpB {g : Gm} {l0 : Launch} {E : En} {d : Nat} (hg : Ok g l0 E cX1_init RX1 2 (d + 2) 123 3480) : ∀ (k i : Nat), i + k = 60 → ∀ (M : Mm) (Rf : Nat → Nat → Nat), Zr (38 + 2 * i) M Rf → Rf 34 0 = 35 → Ret g E 123 3480 none true 158 (rfB k i Rf) none (mmB k i M) → WG g E 2 (38 + 2 * i) Rf true (3 + 2 * i) (180 + 55 * i) 31 [(0, rr E.1 34), (1, .int (nI i))] [] M := by
  intro k
  induction k with
  | zero =>
    intro i hi M Rf hz hR hr
    obtain rfl : i = 60 := by omega
    refine g_iload_n hg dX1_init_31 rfl 1 rfl ?_
    refine g_bipush hg dX1_init_32 kB_60 ?_
    refine g_icmp_ge (tgt := 56) hg dX1_init_34 (by decide) (fun c => ?_) (fun c => ?_)
    · exact g_vret hg hr dX1_init_56
    · exact absurd (by decide) c
  | succ k ih =>
    intro i hi M Rf hz hR hr
    have h60 : i < 60 := by omega
    have hN : isNt (38 + 2 * i) := ⟨i, h60, rfl⟩
    refine g_iload_n hg dX1_init_31 rfl 1 rfl ?_
    refine g_bipush hg dX1_init_32 kB_60 ?_
    refine g_icmp_ge (tgt := 56) hg dX1_init_34 (by decide) (fun c => ?_) (fun c => ?_)
    · exact absurd c (nI_ge (b := 60) h60 (by decide))
    · refine g_rload_n hg dX1_init_37 rfl 0 rfl ?_
      refine g_getR (r := 35) hg fl_X1_11 ly34 rfl (by omega) hR (by decide) dX1_init_38 ?_
      refine g_iload_n hg dX1_init_41 rfl 1 rfl ?_
      refine g_new (ci := 7) hg rfl (nt_lay hN) ⟨wx2_53, wx2_55, w1_12⟩ hz (by omega) dX1_init_42 ?_
      refine g_dup hg dX1_init_45 rfl ?_
      refine g_callIN (As := []) (rest := [rr E.1 (38 + 2 * i), .int (nI i), rr E.1 35]) hg (ct_note h60 (by omega) hz) ci_X1_25 rfl rfl (Nat.le_of_ble_eq_true rfl) (by omega) dX1_init_46 ?_
      refine g_aast (N := 60) hg ly35 (by omega) (nt_lay hN) (by omega) (vp_in_nI h60 (by decide)) dX1_init_49 ?_
      rw [nI_clamp (by omega)]
      refine g_inc (lv' := [(1, .int (nI i + 1)), (0, rr E.1 34)]) hg dX1_init_50 kI_1 1 rfl (by decide) rfl ?_
      refine g_goto (tgt := 31) hg dX1_init_53 (by decide) ?_
      refine g_sub (lv' := [(0, rr E.1 34), (1, .int (nI i + 1))]) [1, 0] rfl ?_
      rw [nI_1]
      have e1 : 38 + 2 * i + 1 + 1 = 38 + 2 * (i + 1) := by omega
      have e2 : 3 + 2 * i + 1 + 1 = 3 + 2 * (i + 1) := by omega
      have e3 : 180 + 55 * i + 7 + 48 = 180 + 55 * (i + 1) := by omega
      rw [e1, e2, e3]
      refine ih (i + 1) (by omega) _ _ (Zr_up (Zr_up (Zr_sI (Zr_sI (Zr_sI (Zr_mono hz (by omega)) (by omega)) (by omega)) (by omega)) (by omega)) (by omega)) ?_ hr
      rw [up2_ne _ _ _ (by omega), up2_ne _ _ _ (by omega)]
      exact hR
def mm_book (M : Mm) : Mm := mmB 60 0 M
def rf_book (Rf : Nat → Nat → Nat) : Nat → Nat → Nat := rfB 60 0 (up2 (up2 (up2 Rf 34 0 35) 34 2 36) 34 4 37)
theorem zr_book {M : Mm} {Rf : Nat → Nat → Nat} (hz : Zr 34 M Rf) : Zr 158 (mm_book M) (rf_book Rf) := zr_B 60 0 M _ (Zr_up (Zr_up (Zr_up (Zr_mono hz (by decide)) (by decide)) (by decide)) (by decide))
theorem ct_book {l0 : Launch} {E : En} {d : Nat} {Rf : Nat → Nat → Nat} {M : Mm} (hd : 2 ≤ d) (hz : Zr 34 M Rf) : Ct l0 E yX1_init cX1_init 2 none d 123 3480 [rr E.1 34] true 35 Rf M 158 (rf_book Rf) none (mm_book M) := by
  obtain ⟨d, rfl⟩ := Nat.exists_eq_add_of_le' hd
  refine Ct.of pnX1 (Nat.le_of_ble_eq_true rfl) (fun g hg hr hnm => ?_)
  replace hg : Ok g l0 E cX1_init RX1 2 (d + 2) 123 3480 := hg
  show WG g E 2 35 Rf true 0 0 0 [(0, rr E.1 34)] [] M
  refine g_rload_n hg dX1_init_0 rfl 0 rfl ?_
  refine g_objI hg wx2_52 (Nat.le_of_ble_eq_true rfl) dX1_init_1 ?_
  refine g_rload_n hg dX1_init_4 rfl 0 rfl ?_
  refine g_bipush hg dX1_init_5 kB_60 ?_
  refine g_anew (N := 60) hg ly35 wx2_53 (by decide) (by decide) (by decide) (Zr_mono hz (by decide)) (by decide) dX1_init_7 ?_
  refine g_putF hg hnm ff_X1_11 ly34 rfl (by decide) (by decide) rfl rfl dX1_init_10 ?_
  refine g_rload_n hg dX1_init_13 rfl 0 rfl ?_
  refine g_bipush hg dX1_init_14 kB_60 ?_
  refine g_newa (t := 0) (ty := .int) (N := 60) hg rfl (fun _ => rfl) (fun _ _ h => h) ly36 av_i wx1_129 (by decide) (by decide) (by decide) (Zr_up (Zr_mono hz (by decide)) (by decide)) (by decide) dX1_init_16 ?_
  refine g_putF hg hnm ff_X1_17 ly34 rfl (by decide) (by decide) rfl rfl dX1_init_18 ?_
  refine g_rload_n hg dX1_init_21 rfl 0 rfl ?_
  refine g_bipush hg dX1_init_22 kB_60 ?_
  refine g_newa (t := 1) (ty := .boolean) (N := 60) hg rfl (fun _ => rfl) (fun _ _ h => h) ly37 av_z wx2_98 (by decide) (by decide) (by decide) (Zr_up (Zr_up (Zr_mono hz (by decide)) (by decide)) (by decide)) (by decide) dX1_init_24 ?_
  refine g_putF hg hnm ff_X1_21 ly34 rfl (by decide) (by decide) rfl rfl dX1_init_26 ?_
  refine g_iconst hg dX1_init_29 kI_0 ?_
  refine g_istore_n (lv' := [(1, .int 0), (0, rr E.1 34)]) hg dX1_init_30 rfl (by decide) rfl ?_
  refine g_sub (lv' := [(0, rr E.1 34), (1, .int 0)]) [1, 0] rfl ?_
  exact lpB hg 60 0 (by decide) _ _ (Zr_up (Zr_up (Zr_up (Zr_mono hz (by decide)) (by decide)) (by decide)) (by decide)) rfl hr
def mm_chances (M : Mm) : Mm := M
def rf_chances (Rf : Nat → Nat → Nat) : Nat → Nat → Nat := (up2 (up2 (up2 (up2 (up2 Rf 158 2 159) 158 3 160) 158 5 161) 158 0 22) 158 1 34)
theorem zr_chances {M : Mm} {Rf : Nat → Nat → Nat} (hz : Zr 158 M Rf) : Zr 162 (mm_chances M) (rf_chances Rf) := by
  replace hz := Zr_mono hz (by decide : 158 ≤ 159)
  exact (Zr_up (Zr_up (Zr_up (Zr_mono (Zr_up (Zr_mono (Zr_up (Zr_mono hz (by decide : 159 ≤ 160)) (by decide)) (by decide : 160 ≤ 161)) (by decide)) (by decide : 161 ≤ 162)) (by decide)) (by decide)) (by decide))
theorem ct_chances {l0 : Launch} {E : En} {d : Nat} {Rf : Nat → Nat → Nat} {M : Mm} (hd : 1 ≤ d) (hz : Zr 158 M Rf) : Ct l0 E yX2_init cX2_init 3 none d 3 208 [rr E.1 158, rr E.1 22, rr E.1 34] true 159 Rf M 162 (rf_chances Rf) none (mm_chances M) := by
  obtain ⟨d, rfl⟩ := Nat.exists_eq_add_of_le' hd
  have hz0 := hz
  replace hz := Zr_mono hz (by decide : 158 ≤ 159)
  refine Ct.of pnX2 (Nat.le_of_ble_eq_true rfl) (fun g hg hr hnm => ?_)
  replace hg : Ok g l0 E cX2_init RX2 3 (d + 1) 3 208 := hg
  show WG g E 3 159 Rf true 0 0 0 [(0, rr E.1 158), (1, rr E.1 22), (2, rr E.1 34)] [] M
  refine g_rload_n hg dX2_init_0 rfl 0 rfl ?_
  refine g_objI hg wx2_136 (Nat.le_of_ble_eq_true rfl) dX2_init_1 ?_
  refine g_rload_n hg dX2_init_4 rfl 0 rfl ?_
  refine g_sipush hg dX2_init_5 kS_192 ?_
  refine g_newa (t := 0) (ty := .int) (N := 192) hg rfl (fun _ => rfl) (fun _ _ h => h) ly159 av_i wx1_129 (by decide) (by decide) (by decide) hz (by decide) dX2_init_8 ?_
  refine g_putF hg hnm ff_X2_9 ly158 rfl (by decide) (by decide) rfl rfl dX2_init_10 ?_
  refine g_rload_n hg dX2_init_13 rfl 0 rfl ?_
  refine g_bipush hg dX2_init_14 kB_8 ?_
  refine g_newa (t := 0) (ty := .int) (N := 8) hg rfl (fun _ => rfl) (fun _ _ h => h) ly160 av_i wx1_129 (by decide) (by decide) (by decide) (Zr_up (Zr_mono hz (by decide : 159 ≤ 160)) (by decide)) (by decide) dX2_init_16 ?_
  refine g_putF hg hnm ff_X2_15 ly158 rfl (by decide) (by decide) rfl rfl dX2_init_18 ?_
  refine g_rload_n hg dX2_init_21 rfl 0 rfl ?_
  refine g_bipush hg dX2_init_22 kB_8 ?_
  refine g_newa (t := 0) (ty := .int) (N := 8) hg rfl (fun _ => rfl) (fun _ _ h => h) ly161 av_i wx1_129 (by decide) (by decide) (by decide) (Zr_up (Zr_mono (Zr_up (Zr_mono hz (by decide : 159 ≤ 160)) (by decide)) (by decide : 160 ≤ 161)) (by decide)) (by decide) dX2_init_24 ?_
  refine g_putF hg hnm ff_X2_18 ly158 rfl (by decide) (by decide) rfl rfl dX2_init_26 ?_
  refine g_rload_n hg dX2_init_29 rfl 0 rfl ?_
  refine g_rload_n hg dX2_init_30 rfl 1 rfl ?_
  refine g_putF hg hnm ff_X2_21 ly158 rfl (by decide) (by decide) rfl rfl dX2_init_31 ?_
  refine g_rload_n hg dX2_init_34 rfl 0 rfl ?_
  refine g_rload_n hg dX2_init_35 rfl 2 rfl ?_
  refine g_putF hg hnm ff_X2_25 ly158 rfl (by decide) (by decide) rfl rfl dX2_init_36 ?_
  exact g_vret hg hr dX2_init_39
def mm_drawer (M : Mm) : Mm := (sI (sI M 162 2 300) 162 3 100)
def rf_drawer (Rf : Nat → Nat → Nat) : Nat → Nat → Nat := (up2 (up2 (up2 (up2 (up2 (upR Rf 163 8) 162 4 163) 162 5 172) 162 6 173) 162 0 22) 162 1 158)
theorem zr_drawer {M : Mm} {Rf : Nat → Nat → Nat} (hz : Zr 162 M Rf) : Zr 174 (mm_drawer M) (rf_drawer Rf) := by
  replace hz := Zr_mono hz (by decide : 162 ≤ 163)
  exact (Zr_up (Zr_up (Zr_up (Zr_mono (Zr_up (Zr_mono (Zr_up (Zr_upR (Zr_mono (Zr_sI (Zr_sI hz (by decide)) (by decide)) (by decide : 163 ≤ 172)) (by decide)) (by decide)) (by decide : 172 ≤ 173)) (by decide)) (by decide : 173 ≤ 174)) (by decide)) (by decide)) (by decide))
theorem ct_drawer {l0 : Launch} {E : En} {d : Nat} {Rf : Nat → Nat → Nat} {M : Mm} (hd : 1 ≤ d) (hz : Zr 162 M Rf) : Ct l0 E yX3_init cX3_init 3 none d 11 88 [rr E.1 162, rr E.1 22, rr E.1 158] true 163 Rf M 174 (rf_drawer Rf) none (mm_drawer M) := by
  obtain ⟨d, rfl⟩ := Nat.exists_eq_add_of_le' hd
  have hz0 := hz
  replace hz := Zr_mono hz (by decide : 162 ≤ 163)
  refine Ct.of pnX3 (Nat.le_of_ble_eq_true rfl) (fun g hg hr hnm => ?_)
  replace hg : Ok g l0 E cX3_init RX3 3 (d + 1) 11 88 := hg
  show WG g E 3 163 Rf true 0 0 0 [(0, rr E.1 162), (1, rr E.1 22), (2, rr E.1 158)] [] M
  refine g_rload_n hg dX3_init_0 rfl 0 rfl ?_
  refine g_objI hg wx2_172 (Nat.le_of_ble_eq_true rfl) dX3_init_1 ?_
  refine g_rload_n hg dX3_init_4 rfl 0 rfl ?_
  refine g_sipush hg dX3_init_5 kS_300 ?_
  refine g_putI hg fp_X3_9 ly162 rfl (by decide) dX3_init_8 ?_
  refine g_rload_n hg dX3_init_11 rfl 0 rfl ?_
  refine g_bipush hg dX3_init_12 kB_100 ?_
  refine g_putI hg fp_X3_15 ly162 rfl (by decide) dX3_init_14 ?_
  refine g_rload_n hg dX3_init_17 rfl 0 rfl ?_
  refine g_bipush hg dX3_init_18 kB_8 ?_
  refine g_bipush hg dX3_init_20 kB_8 ?_
  refine g_mna (N := 8) (K := 8) hg ly163 (by decide +kernel) wx2_173 wx1_129 (by decide) (by decide) (by decide) (by decide) (by decide) (Zr_sI (Zr_sI hz (by decide)) (by decide)) (by decide) dX3_init_22 ?_
  refine g_putF hg hnm ff_X3_20 ly162 rfl (by decide) (by decide) rfl rfl dX3_init_26 ?_
  refine g_rload_n hg dX3_init_29 rfl 0 rfl ?_
  refine g_bipush hg dX3_init_30 kB_8 ?_
  refine g_newa (t := 0) (ty := .int) (N := 8) hg rfl (fun _ => rfl) (fun _ _ h => h) ly172 av_i wx1_129 (by decide) (by decide) (by decide) (Zr_up (Zr_upR (Zr_mono (Zr_sI (Zr_sI hz (by decide)) (by decide)) (by decide : 163 ≤ 172)) (by decide)) (by decide)) (by decide) dX3_init_32 ?_
  refine g_putF hg hnm ff_X3_23 ly162 rfl (by decide) (by decide) rfl rfl dX3_init_34 ?_
  refine g_rload_n hg dX3_init_37 rfl 0 rfl ?_
  refine g_bipush hg dX3_init_38 kB_8 ?_
  refine g_newa (t := 0) (ty := .int) (N := 8) hg rfl (fun _ => rfl) (fun _ _ h => h) ly173 av_i wx1_129 (by decide) (by decide) (by decide) (Zr_up (Zr_mono (Zr_up (Zr_upR (Zr_mono (Zr_sI (Zr_sI hz (by decide)) (by decide)) (by decide : 163 ≤ 172)) (by decide)) (by decide)) (by decide : 172 ≤ 173)) (by decide)) (by decide) dX3_init_40 ?_
  refine g_putF hg hnm ff_X3_27 ly162 rfl (by decide) (by decide) rfl rfl dX3_init_42 ?_
  refine g_rload_n hg dX3_init_45 rfl 0 rfl ?_
  refine g_rload_n hg dX3_init_46 rfl 1 rfl ?_
  refine g_putF hg hnm ff_X3_30 ly162 rfl (by decide) (by decide) rfl rfl dX3_init_47 ?_
  refine g_rload_n hg dX3_init_50 rfl 0 rfl ?_
  refine g_rload_n hg dX3_init_51 rfl 2 rfl ?_
  refine g_putF hg hnm ff_X3_34 ly162 rfl (by decide) (by decide) rfl rfl dX3_init_52 ?_
  exact g_vret hg hr dX3_init_55
def mm_planner (M : Mm) : Mm := (sI M 174 11 (-1))
def rf_planner (Rf : Nat → Nat → Nat) : Nat → Nat → Nat := (up2 (up2 (up2 (up2 (up2 Rf 174 1 175) 174 5 176) 174 6 177) 174 9 178) 174 0 22)
theorem zr_planner {M : Mm} {Rf : Nat → Nat → Nat} (hz : Zr 174 M Rf) : Zr 179 (mm_planner M) (rf_planner Rf) := by
  replace hz := Zr_mono hz (by decide : 174 ≤ 175)
  exact (Zr_up (Zr_sI (Zr_up (Zr_mono (Zr_up (Zr_mono (Zr_up (Zr_mono (Zr_up (Zr_mono hz (by decide : 175 ≤ 176)) (by decide)) (by decide : 176 ≤ 177)) (by decide)) (by decide : 177 ≤ 178)) (by decide)) (by decide : 178 ≤ 179)) (by decide)) (by decide)) (by decide))
theorem ct_planner {l0 : Launch} {E : En} {d : Nat} {Rf : Nat → Nat → Nat} {M : Mm} (hd : 1 ≤ d) (hz : Zr 174 M Rf) : Ct l0 E yX9_init cX9_init 2 none d 4 73 [rr E.1 174, rr E.1 22] true 175 Rf M 179 (rf_planner Rf) none (mm_planner M) := by
  obtain ⟨d, rfl⟩ := Nat.exists_eq_add_of_le' hd
  have hz0 := hz
  replace hz := Zr_mono hz (by decide : 174 ≤ 175)
  refine Ct.of pnX9 (Nat.le_of_ble_eq_true rfl) (fun g hg hr hnm => ?_)
  replace hg : Ok g l0 E cX9_init RX9 2 (d + 1) 4 73 := hg
  show WG g E 2 175 Rf true 0 0 0 [(0, rr E.1 174), (1, rr E.1 22)] [] M
  refine g_rload_n hg dX9_init_0 rfl 0 rfl ?_
  refine g_objI hg wx2_208 (Nat.le_of_ble_eq_true rfl) dX9_init_1 ?_
  refine g_rload_n hg dX9_init_4 rfl 0 rfl ?_
  refine g_bipush hg dX9_init_5 kB_64 ?_
  refine g_newa (t := 0) (ty := .int) (N := 64) hg rfl (fun _ => rfl) (fun _ _ h => h) ly175 av_i wx1_129 (by decide) (by decide) (by decide) hz (by decide) dX9_init_7 ?_
  refine g_putF hg hnm ff_X9_9 ly174 rfl (by decide) (by decide) rfl rfl dX9_init_9 ?_
  refine g_rload_n hg dX9_init_12 rfl 0 rfl ?_
  refine g_iconst hg dX9_init_13 kI_3 ?_
  refine g_newa (t := 0) (ty := .int) (N := 3) hg rfl (fun _ => rfl) (fun _ _ h => h) ly176 av_i wx1_129 (by decide) (by decide) (by decide) (Zr_up (Zr_mono hz (by decide : 175 ≤ 176)) (by decide)) (by decide) dX9_init_14 ?_
  refine g_putF hg hnm ff_X9_15 ly174 rfl (by decide) (by decide) rfl rfl dX9_init_16 ?_
  refine g_rload_n hg dX9_init_19 rfl 0 rfl ?_
  refine g_iconst hg dX9_init_20 kI_3 ?_
  refine g_newa (t := 0) (ty := .int) (N := 3) hg rfl (fun _ => rfl) (fun _ _ h => h) ly177 av_i wx1_129 (by decide) (by decide) (by decide) (Zr_up (Zr_mono (Zr_up (Zr_mono hz (by decide : 175 ≤ 176)) (by decide)) (by decide : 176 ≤ 177)) (by decide)) (by decide) dX9_init_21 ?_
  refine g_putF hg hnm ff_X9_18 ly174 rfl (by decide) (by decide) rfl rfl dX9_init_23 ?_
  refine g_rload_n hg dX9_init_26 rfl 0 rfl ?_
  refine g_iconst hg dX9_init_27 kI_3 ?_
  refine g_newa (t := 0) (ty := .int) (N := 3) hg rfl (fun _ => rfl) (fun _ _ h => h) ly178 av_i wx1_129 (by decide) (by decide) (by decide) (Zr_up (Zr_mono (Zr_up (Zr_mono (Zr_up (Zr_mono hz (by decide : 175 ≤ 176)) (by decide)) (by decide : 176 ≤ 177)) (by decide)) (by decide : 177 ≤ 178)) (by decide)) (by decide) dX9_init_28 ?_
  refine g_putF hg hnm ff_X9_21 ly174 rfl (by decide) (by decide) rfl rfl dX9_init_30 ?_
  refine g_rload_n hg dX9_init_33 rfl 0 rfl ?_
  refine g_iconst hg dX9_init_34 kI_m1 ?_
  refine g_putI hg fp_X9_24 ly174 rfl (by decide) dX9_init_35 ?_
  refine g_rload_n hg dX9_init_38 rfl 0 rfl ?_
  refine g_rload_n hg dX9_init_39 rfl 1 rfl ?_
  refine g_putF hg hnm ff_X9_28 ly174 rfl (by decide) (by decide) rfl rfl dX9_init_40 ?_
  exact g_vret hg hr dX9_init_43
def mm_oldmap (M : Mm) : Mm := M
def rf_oldmap (Rf : Nat → Nat → Nat) : Nat → Nat → Nat := (up2 (up2 (up2 (up2 (up2 (upR Rf 180 6) 179 3 180) 179 4 187) 179 0 22) 179 1 34) 179 2 158)
theorem zr_oldmap {M : Mm} {Rf : Nat → Nat → Nat} (hz : Zr 179 M Rf) : Zr 188 (mm_oldmap M) (rf_oldmap Rf) := by
  replace hz := Zr_mono hz (by decide : 179 ≤ 180)
  exact (Zr_up (Zr_up (Zr_up (Zr_up (Zr_mono (Zr_up (Zr_upR (Zr_mono hz (by decide : 180 ≤ 187)) (by decide)) (by decide)) (by decide : 187 ≤ 188)) (by decide)) (by decide)) (by decide)) (by decide))
theorem ct_oldmap {l0 : Launch} {E : En} {d : Nat} {Rf : Nat → Nat → Nat} {M : Mm} (hd : 1 ≤ d) (hz : Zr 179 M Rf) : Ct l0 E yX8_init cX8_init 4 none d 8 60 [rr E.1 179, rr E.1 22, rr E.1 34, rr E.1 158] true 180 Rf M 188 (rf_oldmap Rf) none (mm_oldmap M) := by
  obtain ⟨d, rfl⟩ := Nat.exists_eq_add_of_le' hd
  have hz0 := hz
  replace hz := Zr_mono hz (by decide : 179 ≤ 180)
  refine Ct.of pnX8 (Nat.le_of_ble_eq_true rfl) (fun g hg hr hnm => ?_)
  replace hg : Ok g l0 E cX8_init RX8 4 (d + 1) 8 60 := hg
  show WG g E 4 180 Rf true 0 0 0 [(0, rr E.1 179), (1, rr E.1 22), (2, rr E.1 34), (3, rr E.1 158)] [] M
  refine g_rload_n hg dX8_init_0 rfl 0 rfl ?_
  refine g_objI hg wx3_14 (Nat.le_of_ble_eq_true rfl) dX8_init_1 ?_
  refine g_rload_n hg dX8_init_4 rfl 0 rfl ?_
  refine g_bipush hg dX8_init_5 kB_6 ?_
  refine g_bipush hg dX8_init_7 kB_8 ?_
  refine g_mna (N := 6) (K := 8) hg ly180 (by decide +kernel) wx3_15 wx1_129 (by decide) (by decide) (by decide) (by decide) (by decide) hz (by decide) dX8_init_9 ?_
  refine g_putF hg hnm ff_X8_11 ly179 rfl (by decide) (by decide) rfl rfl dX8_init_13 ?_
  refine g_rload_n hg dX8_init_16 rfl 0 rfl ?_
  refine g_bipush hg dX8_init_17 kB_6 ?_
  refine g_newa (t := 0) (ty := .int) (N := 6) hg rfl (fun _ => rfl) (fun _ _ h => h) ly187 av_i wx1_129 (by decide) (by decide) (by decide) (Zr_up (Zr_upR (Zr_mono hz (by decide : 180 ≤ 187)) (by decide)) (by decide)) (by decide) dX8_init_19 ?_
  refine g_putF hg hnm ff_X8_16 ly179 rfl (by decide) (by decide) rfl rfl dX8_init_21 ?_
  refine g_rload_n hg dX8_init_24 rfl 0 rfl ?_
  refine g_rload_n hg dX8_init_25 rfl 1 rfl ?_
  refine g_putF hg hnm ff_X8_20 ly179 rfl (by decide) (by decide) rfl rfl dX8_init_26 ?_
  refine g_rload_n hg dX8_init_29 rfl 0 rfl ?_
  refine g_rload_n hg dX8_init_30 rfl 2 rfl ?_
  refine g_putF hg hnm ff_X8_24 ly179 rfl (by decide) (by decide) rfl rfl dX8_init_31 ?_
  refine g_rload_n hg dX8_init_34 rfl 0 rfl ?_
  refine g_rload_n hg dX8_init_35 rfl 3 rfl ?_
  refine g_putF hg hnm ff_X8_28 ly179 rfl (by decide) (by decide) rfl rfl dX8_init_36 ?_
  exact g_vret hg hr dX8_init_39
def mm_agree (M : Mm) : Mm := M
def rf_agree (Rf : Nat → Nat → Nat) : Nat → Nat → Nat := (up2 (up2 (up2 (up2 (up2 Rf 188 1 189) 188 2 190) 188 3 191) 188 4 192) 188 0 34)
theorem zr_agree {M : Mm} {Rf : Nat → Nat → Nat} (hz : Zr 188 M Rf) : Zr 193 (mm_agree M) (rf_agree Rf) := by
  replace hz := Zr_mono hz (by decide : 188 ≤ 189)
  exact (Zr_up (Zr_up (Zr_mono (Zr_up (Zr_mono (Zr_up (Zr_mono (Zr_up (Zr_mono hz (by decide : 189 ≤ 190)) (by decide)) (by decide : 190 ≤ 191)) (by decide)) (by decide : 191 ≤ 192)) (by decide)) (by decide : 192 ≤ 193)) (by decide)) (by decide))
theorem ct_agree {l0 : Launch} {E : En} {d : Nat} {Rf : Nat → Nat → Nat} {M : Mm} (hd : 1 ≤ d) (hz : Zr 188 M Rf) : Ct l0 E yX0_init cX0_init 2 none d 4 144 [rr E.1 188, rr E.1 34] true 189 Rf M 193 (rf_agree Rf) none (mm_agree M) := by
  obtain ⟨d, rfl⟩ := Nat.exists_eq_add_of_le' hd
  have hz0 := hz
  replace hz := Zr_mono hz (by decide : 188 ≤ 189)
  refine Ct.of pnX0 (Nat.le_of_ble_eq_true rfl) (fun g hg hr hnm => ?_)
  replace hg : Ok g l0 E cX0_init RX0 2 (d + 1) 4 144 := hg
  show WG g E 2 189 Rf true 0 0 0 [(0, rr E.1 188), (1, rr E.1 34)] [] M
  refine g_rload_n hg dX0_init_0 rfl 0 rfl ?_
  refine g_objI hg wx3_39 (Nat.le_of_ble_eq_true rfl) dX0_init_1 ?_
  refine g_rload_n hg dX0_init_4 rfl 0 rfl ?_
  refine g_bipush hg dX0_init_5 kB_64 ?_
  refine g_newa (t := 0) (ty := .int) (N := 64) hg rfl (fun _ => rfl) (fun _ _ h => h) ly189 av_i wx1_129 (by decide) (by decide) (by decide) hz (by decide) dX0_init_7 ?_
  refine g_putF hg hnm ff_X0_9 ly188 rfl (by decide) (by decide) rfl rfl dX0_init_9 ?_
  refine g_rload_n hg dX0_init_12 rfl 0 rfl ?_
  refine g_bipush hg dX0_init_13 kB_64 ?_
  refine g_newa (t := 0) (ty := .int) (N := 64) hg rfl (fun _ => rfl) (fun _ _ h => h) ly190 av_i wx1_129 (by decide) (by decide) (by decide) (Zr_up (Zr_mono hz (by decide : 189 ≤ 190)) (by decide)) (by decide) dX0_init_15 ?_
  refine g_putF hg hnm ff_X0_15 ly188 rfl (by decide) (by decide) rfl rfl dX0_init_17 ?_
  refine g_rload_n hg dX0_init_20 rfl 0 rfl ?_
  refine g_bipush hg dX0_init_21 kB_8 ?_
  refine g_newa (t := 0) (ty := .int) (N := 8) hg rfl (fun _ => rfl) (fun _ _ h => h) ly191 av_i wx1_129 (by decide) (by decide) (by decide) (Zr_up (Zr_mono (Zr_up (Zr_mono hz (by decide : 189 ≤ 190)) (by decide)) (by decide : 190 ≤ 191)) (by decide)) (by decide) dX0_init_23 ?_
  refine g_putF hg hnm ff_X0_18 ly188 rfl (by decide) (by decide) rfl rfl dX0_init_25 ?_
  refine g_rload_n hg dX0_init_28 rfl 0 rfl ?_
  refine g_bipush hg dX0_init_29 kB_8 ?_
  refine g_newa (t := 0) (ty := .int) (N := 8) hg rfl (fun _ => rfl) (fun _ _ h => h) ly192 av_i wx1_129 (by decide) (by decide) (by decide) (Zr_up (Zr_mono (Zr_up (Zr_mono (Zr_up (Zr_mono hz (by decide : 189 ≤ 190)) (by decide)) (by decide : 190 ≤ 191)) (by decide)) (by decide : 191 ≤ 192)) (by decide)) (by decide) dX0_init_31 ?_
  refine g_putF hg hnm ff_X0_21 ly188 rfl (by decide) (by decide) rfl rfl dX0_init_33 ?_
  refine g_rload_n hg dX0_init_36 rfl 0 rfl ?_
  refine g_rload_n hg dX0_init_37 rfl 1 rfl ?_
  refine g_putF hg hnm ff_X0_24 ly188 rfl (by decide) (by decide) rfl rfl dX0_init_38 ?_
  exact g_vret hg hr dX0_init_41
