theorem kB_9 : (Int8.ofInt 9).toInt32 = 9 := by decide +kernel
theorem kB_25 : (Int8.ofInt 25).toInt32 = 25 := by decide +kernel
theorem kB_26 : (Int8.ofInt 26).toInt32 = 26 := by decide +kernel
theorem kB_27 : (Int8.ofInt 27).toInt32 = 27 := by decide +kernel
theorem kB_28 : (Int8.ofInt 28).toInt32 = 28 := by decide +kernel
theorem kB_29 : (Int8.ofInt 29).toInt32 = 29 := by decide +kernel
theorem kB_31 : (Int8.ofInt 31).toInt32 = 31 := by decide +kernel
theorem kB_33 : (Int8.ofInt 33).toInt32 = 33 := by decide +kernel
theorem kB_34 : (Int8.ofInt 34).toInt32 = 34 := by decide +kernel
theorem kB_35 : (Int8.ofInt 35).toInt32 = 35 := by decide +kernel
theorem kB_36 : (Int8.ofInt 36).toInt32 = 36 := by decide +kernel
theorem kB_37 : (Int8.ofInt 37).toInt32 = 37 := by decide +kernel
theorem kB_38 : (Int8.ofInt 38).toInt32 = 38 := by decide +kernel
theorem kB_39 : (Int8.ofInt 39).toInt32 = 39 := by decide +kernel
theorem kB_42 : (Int8.ofInt 42).toInt32 = 42 := by decide +kernel
theorem kB_43 : (Int8.ofInt 43).toInt32 = 43 := by decide +kernel
theorem kB_44 : (Int8.ofInt 44).toInt32 = 44 := by decide +kernel
theorem kB_46 : (Int8.ofInt 46).toInt32 = 46 := by decide +kernel
theorem kB_47 : (Int8.ofInt 47).toInt32 = 47 := by decide +kernel
theorem kB_49 : (Int8.ofInt 49).toInt32 = 49 := by decide +kernel
theorem kB_50 : (Int8.ofInt 50).toInt32 = 50 := by decide +kernel
theorem kB_51 : (Int8.ofInt 51).toInt32 = 51 := by decide +kernel
theorem kB_52 : (Int8.ofInt 52).toInt32 = 52 := by decide +kernel
theorem kB_53 : (Int8.ofInt 53).toInt32 = 53 := by decide +kernel
theorem kB_54 : (Int8.ofInt 54).toInt32 = 54 := by decide +kernel
theorem kB_55 : (Int8.ofInt 55).toInt32 = 55 := by decide +kernel
theorem kB_56 : (Int8.ofInt 56).toInt32 = 56 := by decide +kernel
theorem kB_63 : (Int8.ofInt 63).toInt32 = 63 := by decide +kernel
theorem kB_65 : (Int8.ofInt 65).toInt32 = 65 := by decide +kernel
theorem kB_66 : (Int8.ofInt 66).toInt32 = 66 := by decide +kernel
theorem kB_67 : (Int8.ofInt 67).toInt32 = 67 := by decide +kernel
theorem kB_68 : (Int8.ofInt 68).toInt32 = 68 := by decide +kernel
theorem kB_69 : (Int8.ofInt 69).toInt32 = 69 := by decide +kernel
theorem kB_70 : (Int8.ofInt 70).toInt32 = 70 := by decide +kernel
theorem kB_71 : (Int8.ofInt 71).toInt32 = 71 := by decide +kernel
theorem kB_72 : (Int8.ofInt 72).toInt32 = 72 := by decide +kernel
theorem kB_73 : (Int8.ofInt 73).toInt32 = 73 := by decide +kernel
theorem kB_74 : (Int8.ofInt 74).toInt32 = 74 := by decide +kernel
theorem kB_75 : (Int8.ofInt 75).toInt32 = 75 := by decide +kernel
theorem kB_76 : (Int8.ofInt 76).toInt32 = 76 := by decide +kernel
theorem kB_77 : (Int8.ofInt 77).toInt32 = 77 := by decide +kernel
theorem kB_78 : (Int8.ofInt 78).toInt32 = 78 := by decide +kernel
theorem kB_79 : (Int8.ofInt 79).toInt32 = 79 := by decide +kernel
theorem kB_80 : (Int8.ofInt 80).toInt32 = 80 := by decide +kernel
theorem kB_81 : (Int8.ofInt 81).toInt32 = 81 := by decide +kernel
theorem kB_82 : (Int8.ofInt 82).toInt32 = 82 := by decide +kernel
theorem kB_83 : (Int8.ofInt 83).toInt32 = 83 := by decide +kernel
theorem kB_84 : (Int8.ofInt 84).toInt32 = 84 := by decide +kernel
theorem kB_85 : (Int8.ofInt 85).toInt32 = 85 := by decide +kernel
theorem kB_86 : (Int8.ofInt 86).toInt32 = 86 := by decide +kernel
theorem kB_87 : (Int8.ofInt 87).toInt32 = 87 := by decide +kernel
theorem kB_88 : (Int8.ofInt 88).toInt32 = 88 := by decide +kernel
theorem kB_89 : (Int8.ofInt 89).toInt32 = 89 := by decide +kernel
theorem kB_90 : (Int8.ofInt 90).toInt32 = 90 := by decide +kernel
theorem kB_91 : (Int8.ofInt 91).toInt32 = 91 := by decide +kernel
theorem kB_92 : (Int8.ofInt 92).toInt32 = 92 := by decide +kernel
theorem kB_93 : (Int8.ofInt 93).toInt32 = 93 := by decide +kernel
theorem kB_94 : (Int8.ofInt 94).toInt32 = 94 := by decide +kernel
theorem kB_95 : (Int8.ofInt 95).toInt32 = 95 := by decide +kernel
theorem kB_98 : (Int8.ofInt 98).toInt32 = 98 := by decide +kernel
theorem kB_103 : (Int8.ofInt 103).toInt32 = 103 := by decide +kernel
theorem kB_104 : (Int8.ofInt 104).toInt32 = 104 := by decide +kernel
theorem kB_105 : (Int8.ofInt 105).toInt32 = 105 := by decide +kernel
theorem kB_106 : (Int8.ofInt 106).toInt32 = 106 := by decide +kernel
theorem kB_107 : (Int8.ofInt 107).toInt32 = 107 := by decide +kernel
theorem kB_108 : (Int8.ofInt 108).toInt32 = 108 := by decide +kernel
theorem kB_109 : (Int8.ofInt 109).toInt32 = 109 := by decide +kernel
theorem kB_110 : (Int8.ofInt 110).toInt32 = 110 := by decide +kernel
theorem kB_111 : (Int8.ofInt 111).toInt32 = 111 := by decide +kernel
theorem kB_112 : (Int8.ofInt 112).toInt32 = 112 := by decide +kernel
theorem kB_113 : (Int8.ofInt 113).toInt32 = 113 := by decide +kernel
theorem kB_114 : (Int8.ofInt 114).toInt32 = 114 := by decide +kernel
theorem kB_115 : (Int8.ofInt 115).toInt32 = 115 := by decide +kernel
theorem kB_116 : (Int8.ofInt 116).toInt32 = 116 := by decide +kernel
theorem kB_117 : (Int8.ofInt 117).toInt32 = 117 := by decide +kernel
theorem kB_118 : (Int8.ofInt 118).toInt32 = 118 := by decide +kernel
theorem kB_119 : (Int8.ofInt 119).toInt32 = 119 := by decide +kernel
theorem kB_120 : (Int8.ofInt 120).toInt32 = 120 := by decide +kernel
theorem kB_121 : (Int8.ofInt 121).toInt32 = 121 := by decide +kernel
theorem kS_128 : (Int16.ofInt 128).toInt32 = 128 := by decide +kernel
theorem kS_2880 : (Int16.ofInt 2880).toInt32 = 2880 := by decide +kernel
theorem ff_X10_9 : FF RX10 9 10 1 (.array .long) := ⟨_, _, _, rfl, by decide, w1_92, rfl, by decide +kernel, rfl⟩
theorem ff_X10_19 : FF RX10 19 10 0 (.array .int) := ⟨_, _, _, rfl, by decide, w1_91, rfl, by decide +kernel, rfl⟩
theorem ff_X11_9 : FF RX11 9 11 0 (.array .int) := ⟨_, _, _, rfl, by decide, w3_76, rfl, by decide +kernel, rfl⟩
theorem ff_X11_18 : FF RX11 18 11 2 (.object RX10) := ⟨_, _, _, rfl, by decide, w3_78, rfl, by decide +kernel, rfl⟩
theorem ff_X11_27 : FF RX11 27 11 3 (.object RX5) := ⟨_, _, _, rfl, by decide, w3_79, rfl, by decide +kernel, rfl⟩
theorem ff_X11_45 : FF RX11 45 11 7 (.object RX6) := ⟨_, _, _, rfl, by decide, w3_83, rfl, by decide +kernel, rfl⟩
theorem ff_X11_52 : FF RX11 52 11 8 (.object RX1) := ⟨_, _, _, rfl, by decide, w3_84, rfl, by decide +kernel, rfl⟩
theorem ff_X11_61 : FF RX11 61 11 9 (.object RX2) := ⟨_, _, _, rfl, by decide, w3_85, rfl, by decide +kernel, rfl⟩
theorem ff_X11_70 : FF RX11 70 11 10 (.object RX3) := ⟨_, _, _, rfl, by decide, w3_86, rfl, by decide +kernel, rfl⟩
theorem ff_X11_79 : FF RX11 79 11 11 (.object RX9) := ⟨_, _, _, rfl, by decide, w3_87, rfl, by decide +kernel, rfl⟩
theorem ff_X11_88 : FF RX11 88 11 12 (.object RX8) := ⟨_, _, _, rfl, by decide, w3_88, rfl, by decide +kernel, rfl⟩
theorem ff_X11_97 : FF RX11 97 11 13 (.object RX0) := ⟨_, _, _, rfl, by decide, w3_89, rfl, by decide +kernel, rfl⟩
theorem ff_X11_101 : FF RX11 101 11 14 (.array .int) := ⟨_, _, _, rfl, by decide, w3_90, rfl, by decide +kernel, rfl⟩
theorem ff_X12_7 : FF RX12 7 12 0 (.array .int) := ⟨_, _, _, rfl, by decide, w6_17, rfl, by decide +kernel, rfl⟩
theorem ff_X12_20 : FF RX12 20 12 5 (.array .int) := ⟨_, _, _, rfl, by decide, w6_22, rfl, by decide +kernel, rfl⟩
theorem ff_X12_23 : FF RX12 23 12 6 (.array .int) := ⟨_, _, _, rfl, by decide, w6_23, rfl, by decide +kernel, rfl⟩
theorem ff_X12_26 : FF RX12 26 12 7 (.array .int) := ⟨_, _, _, rfl, by decide, w6_24, rfl, by decide +kernel, rfl⟩
theorem ff_X12_29 : FF RX12 29 12 8 (.array .int) := ⟨_, _, _, rfl, by decide, w6_25, rfl, by decide +kernel, rfl⟩
theorem ff_X12_32 : FF RX12 32 12 9 (.array .int) := ⟨_, _, _, rfl, by decide, w6_26, rfl, by decide +kernel, rfl⟩
theorem ff_X12_53 : FF RX12 53 12 16 (.array .int) := ⟨_, _, _, rfl, by decide, w6_33, rfl, by decide +kernel, rfl⟩
theorem ff_X12_59 : FF RX12 59 12 27 (.array .int) := ⟨_, _, _, rfl, by decide, w6_44, rfl, by decide +kernel, rfl⟩
theorem ff_X12_62 : FF RX12 62 12 28 (.array .int) := ⟨_, _, _, rfl, by decide, w6_45, rfl, by decide +kernel, rfl⟩
theorem ff_X12_65 : FF RX12 65 12 29 (.array .int) := ⟨_, _, _, rfl, by decide, w6_46, rfl, by decide +kernel, rfl⟩
theorem ff_X12_68 : FF RX12 68 12 30 (.array .int) := ⟨_, _, _, rfl, by decide, w6_47, rfl, by decide +kernel, rfl⟩
theorem ff_X12_71 : FF RX12 71 12 31 (.array .int) := ⟨_, _, _, rfl, by decide, w6_48, rfl, by decide +kernel, rfl⟩
theorem ff_X12_74 : FF RX12 74 12 32 (.array .boolean) := ⟨_, _, _, rfl, by decide, w6_49, rfl, by decide +kernel, rfl⟩
theorem ff_X12_78 : FF RX12 78 12 39 (.array .int) := ⟨_, _, _, rfl, by decide, w6_56, rfl, by decide +kernel, rfl⟩
theorem ff_X12_81 : FF RX12 81 12 40 (.array .int) := ⟨_, _, _, rfl, by decide, w6_57, rfl, by decide +kernel, rfl⟩
theorem ff_X12_84 : FF RX12 84 12 41 (.array .int) := ⟨_, _, _, rfl, by decide, w6_58, rfl, by decide +kernel, rfl⟩
theorem ff_X12_87 : FF RX12 87 12 42 (.array .int) := ⟨_, _, _, rfl, by decide, w6_59, rfl, by decide +kernel, rfl⟩
theorem ff_X12_90 : FF RX12 90 12 43 (.array .int) := ⟨_, _, _, rfl, by decide, w6_60, rfl, by decide +kernel, rfl⟩
theorem ff_X12_93 : FF RX12 93 12 44 (.array .int) := ⟨_, _, _, rfl, by decide, w6_61, rfl, by decide +kernel, rfl⟩
theorem ff_X12_96 : FF RX12 96 12 45 (.array .int) := ⟨_, _, _, rfl, by decide, w6_62, rfl, by decide +kernel, rfl⟩
theorem ff_X12_99 : FF RX12 99 12 46 (.array .int) := ⟨_, _, _, rfl, by decide, w6_63, rfl, by decide +kernel, rfl⟩
theorem ff_X12_102 : FF RX12 102 12 47 (.array .int) := ⟨_, _, _, rfl, by decide, w6_64, rfl, by decide +kernel, rfl⟩
theorem ff_X12_105 : FF RX12 105 12 48 (.array .int) := ⟨_, _, _, rfl, by decide, w6_65, rfl, by decide +kernel, rfl⟩
theorem ff_X12_108 : FF RX12 108 12 49 (.array .int) := ⟨_, _, _, rfl, by decide, w6_66, rfl, by decide +kernel, rfl⟩
theorem ff_X12_111 : FF RX12 111 12 51 (.array .int) := ⟨_, _, _, rfl, by decide, w6_68, rfl, by decide +kernel, rfl⟩
theorem ff_X12_114 : FF RX12 114 12 52 (.array .int) := ⟨_, _, _, rfl, by decide, w6_69, rfl, by decide +kernel, rfl⟩
theorem ff_X12_117 : FF RX12 117 12 54 (.array .int) := ⟨_, _, _, rfl, by decide, w6_71, rfl, by decide +kernel, rfl⟩
theorem ff_X12_120 : FF RX12 120 12 59 (.array .int) := ⟨_, _, _, rfl, by decide, w6_76, rfl, by decide +kernel, rfl⟩
theorem ff_X12_123 : FF RX12 123 12 60 (.array .boolean) := ⟨_, _, _, rfl, by decide, w6_77, rfl, by decide +kernel, rfl⟩
theorem ff_X12_126 : FF RX12 126 12 61 (.array .int) := ⟨_, _, _, rfl, by decide, w6_78, rfl, by decide +kernel, rfl⟩
theorem ff_X12_129 : FF RX12 129 12 62 (.array .int) := ⟨_, _, _, rfl, by decide, w6_79, rfl, by decide +kernel, rfl⟩
theorem ff_X12_132 : FF RX12 132 12 63 (.array .int) := ⟨_, _, _, rfl, by decide, w6_80, rfl, by decide +kernel, rfl⟩
theorem ff_X12_135 : FF RX12 135 12 64 (.array .int) := ⟨_, _, _, rfl, by decide, w6_81, rfl, by decide +kernel, rfl⟩
theorem ff_X12_138 : FF RX12 138 12 65 (.array .int) := ⟨_, _, _, rfl, by decide, w6_82, rfl, by decide +kernel, rfl⟩
theorem ff_X12_141 : FF RX12 141 12 67 (.array .int) := ⟨_, _, _, rfl, by decide, w6_84, rfl, by decide +kernel, rfl⟩
theorem ff_X12_144 : FF RX12 144 12 68 (.array .int) := ⟨_, _, _, rfl, by decide, w6_85, rfl, by decide +kernel, rfl⟩
theorem ff_X12_147 : FF RX12 147 12 69 (.array .int) := ⟨_, _, _, rfl, by decide, w6_86, rfl, by decide +kernel, rfl⟩
theorem ff_X12_150 : FF RX12 150 12 71 (.array .int) := ⟨_, _, _, rfl, by decide, w6_88, rfl, by decide +kernel, rfl⟩
theorem ff_X12_153 : FF RX12 153 12 72 (.array .int) := ⟨_, _, _, rfl, by decide, w6_89, rfl, by decide +kernel, rfl⟩
theorem ff_X12_156 : FF RX12 156 12 73 (.array .boolean) := ⟨_, _, _, rfl, by decide, w6_90, rfl, by decide +kernel, rfl⟩
theorem ff_X12_159 : FF RX12 159 12 76 (.array .int) := ⟨_, _, _, rfl, by decide, w6_93, rfl, by decide +kernel, rfl⟩
theorem ff_X12_162 : FF RX12 162 12 79 (.array .int) := ⟨_, _, _, rfl, by decide, w6_96, rfl, by decide +kernel, rfl⟩
theorem ff_X12_165 : FF RX12 165 12 80 (.array .int) := ⟨_, _, _, rfl, by decide, w6_97, rfl, by decide +kernel, rfl⟩
theorem ci_X11_15 : CI RX11 15 yX10_init cX10_init 5 1 := ⟨w1_34, w1_35, w1_2, w1_36, rfl, by decide +kernel, by decide⟩
theorem ci_X11_24 : CI RX11 24 yX5_init cX5_init 2 1 := ⟨w1_134, w1_135, w1_7, w1_136, rfl, by decide +kernel, by decide⟩
theorem ci_X11_33 : CIN RX11 33 yX4_init cX4_init 1 0 := ⟨fun U h => h.2.2.1, w1_141, w1_8, w1_142, rfl, by decide +kernel, by decide⟩
theorem ci_X11_44 : CI RX11 44 yX6_init cX6_init 1 0 := ⟨w1_198, w1_199, w1_9, w1_200, rfl, by decide +kernel, by decide⟩
theorem ci_X11_51 : CI RX11 51 yX1_init cX1_init 2 0 := ⟨w2_49, w2_50, w1_11, w2_51, rfl, by decide +kernel, by decide⟩
theorem ci_X11_58 : CI RX11 58 yX2_init cX2_init 3 2 := ⟨w2_133, w2_134, w1_13, w2_135, rfl, by decide +kernel, by decide⟩
theorem ci_X11_67 : CI RX11 67 yX3_init cX3_init 3 2 := ⟨w2_169, w2_170, w1_14, w2_171, rfl, by decide +kernel, by decide⟩
theorem ci_X11_76 : CI RX11 76 yX9_init cX9_init 2 1 := ⟨w2_205, w2_206, w1_15, w2_207, rfl, by decide +kernel, by decide⟩
theorem ci_X11_85 : CI RX11 85 yX8_init cX8_init 4 3 := ⟨w3_11, w3_12, w1_16, w3_13, rfl, by decide +kernel, by decide⟩
theorem ci_X11_94 : CI RX11 94 yX0_init cX0_init 2 1 := ⟨w3_36, w3_37, w1_17, w3_38, rfl, by decide +kernel, by decide⟩
def scL : Nat → Int32 → Int32 → Mm → Option Mm
  | 0, _, _, _ => none
  | F + 1, x2, x3, M => if 120 ≤ x3 then some M else if 24 ≤ x2 then some M else ck (inb x3 120) (if chW x3 = 32 then scL F (x2 + 1) (x3 + 1) M else ck (inb x2 24) ((sX10_joined (M.2 4 x2.toNatClampNeg) (chW x3) M).bind fun (q : Int64 × Mm) => scL F x2 (x3 + 1) (sL q.2 4 x2.toNatClampNeg q.1)))
theorem lpS {g : Gm} {l0 : Launch} {E : En} {d : Nat} {Rf : Nat → Nat → Nat} (hRf : RfOk 2 5 (14, 6) Rf) (hR : Rf 3 1 = 4) (hg : Ok g l0 E cX10_init RX10 5 (d + 5) 1 24) {q : Mm} (hr : Ret g E 1 24 none true 5 Rf none q) : ∀ (F : Nat) (x2 x3 : Int32) (M : Mm), scL F x2 x3 M = some q → WG g E 5 5 Rf true 1 24 26 [(0, rr E.1 3), (2, .int x2), (3, .int x3)] [] M := by
  intro F
  induction F with
  | zero =>
    intro x2 x3 M h
    cases h
  | succ F ih =>
    intro x2 x3 M h
    rw [scL] at h
    refine g_iload_n hg dX10_init_26 rfl 2 rfl ?_
    refine g_js hg dX10_init_27 ?_
    refine g_callJ (As := []) (rest := [.int x3]) hg (ctj_len (by omega)) cvj_25 rfl rfl (Nat.le_of_ble_eq_true rfl) ⟨Nat.le_refl _, Nat.le_refl _⟩ dX10_init_29 ?_
    show WG g E 5 5 Rf true 1 24 _ _ [.int 120, .int x3] M
    refine g_icmp_ge (tgt := 85) hg dX10_init_32 (by decide) (fun c => ?_) (fun c => ?_)
    · replace h := Option.some.inj (itT c h)
      subst h
      exact g_vret hg hr dX10_init_85
    · replace h := itF c h
      refine g_iload_n hg dX10_init_35 rfl 1 rfl ?_
      refine g_bipush hg dX10_init_36 kB_24 ?_
      refine g_icmp_ge (tgt := 85) hg dX10_init_38 (by decide) (fun c => ?_) (fun c => ?_)
      · replace h := Option.some.inj (itT c h)
        subst h
        exact g_vret hg hr dX10_init_85
      · replace h := itF c h
        obtain ⟨c44, h⟩ := ck_some h
        refine g_js hg dX10_init_41 ?_
        refine g_iload_n hg dX10_init_43 rfl 2 rfl ?_
        refine g_callJ (As := [.int x3]) (rest := []) hg (ctj_at (by omega) (inb_vp c44)) cvj_31 rfl rfl (Nat.le_of_ble_eq_true rfl) ⟨Nat.le_refl _, Nat.le_refl _⟩ dX10_init_44 ?_
        show WG g E 5 5 Rf true 1 24 _ _ [.int (chW x3)] M
        refine g_istore (lv' := [(4, .int (chW x3)), (0, rr E.1 3), (2, .int x2), (3, .int x3)]) hg dX10_init_47 (by decide) rfl ?_
        refine g_iload hg dX10_init_49 0 rfl ?_
        refine g_bipush hg dX10_init_51 kB_32 ?_
        refine g_icmp_ne (tgt := 62) hg dX10_init_53 (by decide) (fun c => ?_) (fun c => ?_)
        · replace h := itF c h
          obtain ⟨c72, h⟩ := ck_some h
          obtain ⟨q75, e75, h⟩ := Option.bind_eq_some_iff.mp h
          refine g_rload_n hg dX10_init_62 rfl 1 rfl ?_
          refine g_getR (r := 4) hg fl_X10_9 ly3 rfl (by decide) hR (by decide) dX10_init_63 ?_
          refine g_iload_n hg dX10_init_66 rfl 2 rfl ?_
          refine g_rload_n hg dX10_init_67 rfl 1 rfl ?_
          refine g_getR (r := 4) hg fl_X10_9 ly3 rfl (by decide) hR (by decide) dX10_init_68 ?_
          refine g_iload_n hg dX10_init_71 rfl 2 rfl ?_
          refine g_lald hg ly4 (by decide) (inb_vp c72) dX10_init_72 ?_
          refine g_iload hg dX10_init_73 0 rfl ?_
          refine g_callSl (d := d + 4) (As := [.long (M.2 4 x2.toNatClampNeg), .int (chW x3)]) (rest := [.int x2, rr E.1 4]) hg (lkX10_joined (kq := (14, 6)) (by omega) (by decide) hRf e75) cs_X10_35 rfl rfl (Nat.le_of_ble_eq_true rfl) ⟨Nat.le_refl _, Nat.le_refl _⟩ dX10_init_75 ?_
          refine g_last hg ly4 (by decide) (inb_vp c72) dX10_init_78 ?_
          refine g_inc (lv' := [(3, .int (x3 + 1)), (4, .int (chW x3)), (0, rr E.1 3), (2, .int x2)]) hg dX10_init_79 kI_1 3 rfl (by decide) rfl ?_
          refine g_goto (tgt := 26) hg dX10_init_82 (by decide) ?_
          refine g_sub (lv' := [(0, rr E.1 3), (2, .int x2), (3, .int (x3 + 1))]) [2, 3, 0] rfl ?_
          exact ih _ _ _ h
        · replace h := itT c h
          refine g_inc (lv' := [(2, .int (x2 + 1)), (4, .int (chW x3)), (0, rr E.1 3), (3, .int x3)]) hg dX10_init_56 kI_1 2 rfl (by decide) rfl ?_
          refine g_goto (tgt := 79) hg dX10_init_59 (by decide) ?_
          refine g_inc (lv' := [(3, .int (x3 + 1)), (2, .int (x2 + 1)), (4, .int (chW x3)), (0, rr E.1 3)]) hg dX10_init_79 kI_1 3 rfl (by decide) rfl ?_
          refine g_goto (tgt := 26) hg dX10_init_82 (by decide) ?_
          refine g_sub (lv' := [(0, rr E.1 3), (2, .int (x2 + 1)), (3, .int (x3 + 1))]) [3, 1, 0] rfl ?_
          exact ih _ _ _ h
def rf_scan (Rf : Nat → Nat → Nat) : Nat → Nat → Nat := up2 (up2 Rf 3 1 4) 3 0 2
theorem rfok_scan {M : Mm} {Rf : Nat → Nat → Nat} (hz : Zr 3 M Rf) (h2 : ∀ k, Rf 2 k = 0) : RfOk 2 5 (14, 6) (rf_scan Rf) := fun id k h1 h5 hk => by
  have h0 : Rf id k = 0 := by
    by_cases c : id = 2
    · rw [c]; exact h2 k
    · exact (hz id (by omega) k).2.2
  have e : rf_scan Rf id k = rf_scan (fun _ _ => 0) id k := by simp only [rf_scan, up2, h0]
  rw [e, rT_sw (14, 6) (0, 0) id k (by omega) (by omega)]
  exact (by decide +kernel : ∀ id, id < 5 → ∀ k, k < 96 → 2 ≤ id → rf_scan (fun _ _ => 0) id k = rT (0, 0) id k) id h5 k hk h1
theorem ct_scan {l0 : Launch} {E : En} {d : Nat} {Rf : Nat → Nat → Nat} {M : Mm} (hd : 5 ≤ d) (hz : Zr 3 M Rf) (h2 : ∀ k, Rf 2 k = 0) {MS : Mm} (hMS : scL 4096 0 0 (sI M 3 9 (-1)) = some MS) : Ct l0 E yX10_init cX10_init 5 none d 1 24 [rr E.1 3, rr E.1 2] true 4 Rf M 5 (rf_scan Rf) none MS := by
  obtain ⟨d, rfl⟩ := Nat.exists_eq_add_of_le' hd
  refine Ct.of pnX10 (Nat.le_of_ble_eq_true rfl) (fun g hg hr hnm => ?_)
  replace hg : Ok g l0 E cX10_init RX10 5 (d + 5) 1 24 := hg
  show WG g E 5 4 Rf true 0 0 0 [(0, rr E.1 3), (1, rr E.1 2)] [] M
  refine g_rload_n hg dX10_init_0 rfl 0 rfl ?_
  refine g_objI hg wx1_37 (Nat.le_of_ble_eq_true rfl) dX10_init_1 ?_
  refine g_rload_n hg dX10_init_4 rfl 0 rfl ?_
  refine g_bipush hg dX10_init_5 kB_24 ?_
  refine g_newa (t := 2) (ty := .long) (N := 24) hg rfl (fun _ => rfl) (fun _ _ h => h) ly4 av_l wx1_130 (by decide) (by decide) (by decide) (Zr_mono hz (by decide)) (by decide) dX10_init_7 ?_
  refine g_putF hg hnm ff_X10_9 ly3 rfl (by decide) (by decide) rfl rfl dX10_init_9 ?_
  refine g_rload_n hg dX10_init_12 rfl 0 rfl ?_
  refine g_iconst hg dX10_init_13 kI_m1 ?_
  refine g_putI hg fp_X10_15 ly3 rfl (by decide) dX10_init_14 ?_
  refine g_rload_n hg dX10_init_17 rfl 0 rfl ?_
  refine g_rload_n hg dX10_init_18 rfl 1 rfl ?_
  refine g_putF hg hnm ff_X10_19 ly3 rfl (by decide) (by decide) rfl rfl dX10_init_19 ?_
  refine g_iconst hg dX10_init_22 kI_0 ?_
  refine g_istore_n (lv' := [(2, .int 0), (0, rr E.1 3), (1, rr E.1 2)]) hg dX10_init_23 rfl (by decide) rfl ?_
  refine g_iconst hg dX10_init_24 kI_0 ?_
  refine g_istore_n (lv' := [(3, .int 0), (2, .int 0), (0, rr E.1 3), (1, rr E.1 2)]) hg dX10_init_25 rfl (by decide) rfl ?_
  refine g_sub (lv' := [(0, rr E.1 3), (2, .int 0), (3, .int 0)]) [2, 1, 0] rfl ?_
  exact lpS (rfok_scan hz h2) rfl hg hr 4096 0 0 _ hMS
def rf_desk (Rf : Nat → Nat → Nat) : Nat → Nat → Nat := (up2 (up2 (rf_agree (up2 (rf_oldmap (up2 (rf_planner (up2 (rf_drawer (up2 (rf_chances (up2 (rf_book (up2 (rf_land (up2 (rf_k14 (up2 (rf_kr (up2 (rf_scan (up2 Rf 1 0 2)) 1 2 3)) 1 3 5)) 1 4 14)) 1 7 22)) 1 8 34)) 1 9 158)) 1 10 162)) 1 11 174)) 1 12 179)) 1 13 188) 1 14 193)
def mm_desk (ML : Mm) : Mm := (mm_agree (mm_oldmap (mm_planner (mm_drawer (mm_chances (mm_book ML))))))
theorem zr_desk {ML : Mm} {Rf : Nat → Nat → Nat} (hzML : Zr 34 ML (rf_land (up2 (rf_k14 (up2 (rf_kr (up2 (rf_scan (up2 Rf 1 0 2)) 1 2 3)) 1 3 5)) 1 4 14))) : Zr 194 (mm_desk ML) (rf_desk Rf) := (Zr_up (Zr_mono (Zr_up (zr_agree (Zr_up (zr_oldmap (Zr_up (zr_planner (Zr_up (zr_drawer (Zr_up (zr_chances (Zr_up (zr_book (Zr_up hzML (by decide))) (by decide))) (by decide))) (by decide))) (by decide))) (by decide))) (by decide)) (by decide : 193 ≤ 194)) (by decide))
theorem ct_desk {l0 : Launch} {E : En} {d : Nat} {Rf : Nat → Nat → Nat} {M : Mm} (hd : 6 ≤ d) (hz : Zr 1 M Rf) {MS : Mm} (hMS : scL 4096 0 0 (sI M 3 9 (-1)) = some MS) (hzMS : Zr 5 MS (rf_scan (up2 Rf 1 0 2))) {ML : Mm} (hML : sX6_renew 4 4 (sI (sI (sI (sI (sI (mm_k14 (mm_kr MS)) 1 6 (-1)) 22 9 5) 22 10 20) 22 11 30) 22 12 60) = some ML) (hzML : Zr 34 ML (rf_land (up2 (rf_k14 (up2 (rf_kr (up2 (rf_scan (up2 Rf 1 0 2)) 1 2 3)) 1 3 5)) 1 4 14))) : Ct l0 E yX11_init cX11_init 1 none d 192 6474 [rr E.1 1] true 2 Rf M 194 (rf_desk Rf) none (mm_agree (mm_oldmap (mm_planner (mm_drawer (mm_chances (mm_book ML)))))) := by
  obtain ⟨d, rfl⟩ := Nat.exists_eq_add_of_le' hd
  have hz0 := hz
  replace hz := Zr_mono hz (by decide : 1 ≤ 2)
  refine Ct.of pnX11 (Nat.le_of_ble_eq_true rfl) (fun g hg hr hnm => ?_)
  replace hg : Ok g l0 E cX11_init RX11 1 (d + 6) 192 6474 := hg
  show WG g E 1 2 Rf true 0 0 0 [(0, rr E.1 1)] [] M
  refine g_rload_n hg dX11_init_0 rfl 0 rfl ?_
  refine g_objI hg wx1_29 (Nat.le_of_ble_eq_true rfl) dX11_init_1 ?_
  refine g_rload_n hg dX11_init_4 rfl 0 rfl ?_
  refine g_sipush hg dX11_init_5 kS_800 ?_
  refine g_newa (t := 0) (ty := .int) (N := 800) hg rfl (fun _ => rfl) (fun _ _ h => h) ly2 av_i wx1_129 (by decide) (by decide) (by decide) hz (by decide) dX11_init_8 ?_
  refine g_putF hg hnm ff_X11_9 ly1 rfl (by decide) (by decide) rfl rfl dX11_init_10 ?_
  refine g_rload_n hg dX11_init_13 rfl 0 rfl ?_
  refine g_new (ci := 10) hg rfl ly3 ⟨wx1_32, wx1_33, w1_2⟩ (Zr_up (Zr_mono hz (by decide : 2 ≤ 3)) (by decide)) (by decide) dX11_init_14 ?_
  refine g_dup hg dX11_init_17 rfl ?_
  refine g_rload_n hg dX11_init_18 rfl 0 rfl ?_
  refine g_getR (r := 2) hg fl_X11_9 ly1 rfl (by decide) rfl (by decide) dX11_init_19 ?_
  refine g_callI (As := [rr E.1 2]) (rest := [rr E.1 3, rr E.1 1]) hg (ct_scan (by omega) (Zr_up (Zr_mono hz (by decide : 2 ≤ 3)) (by decide)) (fun k => by rw [up2_ne _ _ _ (by decide)]; exact (hz0 2 (by decide) k).2.2) hMS) ci_X11_15 rfl rfl (Nat.le_of_ble_eq_true rfl) (by decide) dX11_init_22 ?_
  refine g_putF hg hnm ff_X11_18 ly1 rfl (by decide) (by decide) rfl rfl dX11_init_25 ?_
  refine g_rload_n hg dX11_init_28 rfl 0 rfl ?_
  refine g_new (ci := 5) hg rfl ly5 ⟨wx1_132, wx1_133, w1_7⟩ (Zr_up hzMS (by decide)) (by decide) dX11_init_29 ?_
  refine g_dup hg dX11_init_32 rfl ?_
  refine g_rload_n hg dX11_init_33 rfl 0 rfl ?_
  refine g_getR (r := 3) hg fl_X11_18 ly1 rfl (by decide) rfl (by decide) dX11_init_34 ?_
  refine g_callI (As := [rr E.1 3]) (rest := [rr E.1 5, rr E.1 1]) hg (ct_kr (by omega) (Zr_up hzMS (by decide))) ci_X11_24 rfl rfl (Nat.le_of_ble_eq_true rfl) (by decide) dX11_init_37 ?_
  refine g_putF hg hnm ff_X11_27 ly1 rfl (by decide) (by decide) rfl rfl dX11_init_40 ?_
  refine g_rload_n hg dX11_init_43 rfl 0 rfl ?_
  refine g_new (ci := 4) hg rfl ly14 ⟨wx1_194, wx1_139, w1_8⟩ (Zr_up (zr_kr (Zr_up hzMS (by decide))) (by decide)) (by decide) dX11_init_44 ?_
  refine g_dup hg dX11_init_47 rfl ?_
  refine g_callIN (As := []) (rest := [rr E.1 14, rr E.1 1]) hg (ct_k14 (by omega) (Zr_up (zr_kr (Zr_up hzMS (by decide))) (by decide))) ci_X11_33 rfl rfl (Nat.le_of_ble_eq_true rfl) (by decide) dX11_init_48 ?_
  refine g_putR hg fp_X11_34 ly1 rfl (by decide) (by decide) rfl rfl dX11_init_51 ?_
  refine g_rload_n hg dX11_init_54 rfl 0 rfl ?_
  refine g_iconst hg dX11_init_55 kI_m1 ?_
  refine g_putI hg fp_X11_38 ly1 rfl (by decide) dX11_init_56 ?_
  refine g_rload_n hg dX11_init_59 rfl 0 rfl ?_
  refine g_new (ci := 6) hg rfl ly22 ⟨wx1_196, wx1_197, w1_9⟩ (Zr_sI (Zr_up (zr_k14 (Zr_up (zr_kr (Zr_up hzMS (by decide))) (by decide))) (by decide)) (by decide)) (by decide) dX11_init_60 ?_
  refine g_dup hg dX11_init_63 rfl ?_
  refine g_callI (As := []) (rest := [rr E.1 22, rr E.1 1]) hg (ct_land (by omega) (Zr_sI (Zr_up (zr_k14 (Zr_up (zr_kr (Zr_up hzMS (by decide))) (by decide))) (by decide)) (by decide)) hML) ci_X11_44 rfl rfl (Nat.le_of_ble_eq_true rfl) (by decide) dX11_init_64 ?_
  refine g_putF hg hnm ff_X11_45 ly1 rfl (by decide) (by decide) rfl rfl dX11_init_67 ?_
  refine g_rload_n hg dX11_init_70 rfl 0 rfl ?_
  refine g_new (ci := 1) hg rfl ly34 ⟨wx2_47, wx2_48, w1_11⟩ (Zr_up hzML (by decide)) (by decide) dX11_init_71 ?_
  refine g_dup hg dX11_init_74 rfl ?_
  refine g_callI (As := []) (rest := [rr E.1 34, rr E.1 1]) hg (ct_book (by omega) (Zr_up hzML (by decide))) ci_X11_51 rfl rfl (Nat.le_of_ble_eq_true rfl) (by decide) dX11_init_75 ?_
  refine g_putF hg hnm ff_X11_52 ly1 rfl (by decide) (by decide) rfl rfl dX11_init_78 ?_
  refine g_rload_n hg dX11_init_81 rfl 0 rfl ?_
  refine g_new (ci := 2) hg rfl ly158 ⟨wx2_131, wx2_132, w1_13⟩ (Zr_up (zr_book (Zr_up hzML (by decide))) (by decide)) (by decide) dX11_init_82 ?_
  refine g_dup hg dX11_init_85 rfl ?_
  refine g_rload_n hg dX11_init_86 rfl 0 rfl ?_
  refine g_getR (r := 22) hg fl_X11_45 ly1 rfl (by decide) rfl (by decide) dX11_init_87 ?_
  refine g_rload_n hg dX11_init_90 rfl 0 rfl ?_
  refine g_getR (r := 34) hg fl_X11_52 ly1 rfl (by decide) rfl (by decide) dX11_init_91 ?_
  refine g_callI (As := [rr E.1 22, rr E.1 34]) (rest := [rr E.1 158, rr E.1 1]) hg (ct_chances (by omega) (Zr_up (zr_book (Zr_up hzML (by decide))) (by decide))) ci_X11_58 rfl rfl (Nat.le_of_ble_eq_true rfl) (by decide) dX11_init_94 ?_
  refine g_putF hg hnm ff_X11_61 ly1 rfl (by decide) (by decide) rfl rfl dX11_init_97 ?_
  refine g_rload_n hg dX11_init_100 rfl 0 rfl ?_
  refine g_new (ci := 3) hg rfl ly162 ⟨wx2_167, wx2_168, w1_14⟩ (Zr_up (zr_chances (Zr_up (zr_book (Zr_up hzML (by decide))) (by decide))) (by decide)) (by decide) dX11_init_101 ?_
  refine g_dup hg dX11_init_104 rfl ?_
  refine g_rload_n hg dX11_init_105 rfl 0 rfl ?_
  refine g_getR (r := 22) hg fl_X11_45 ly1 rfl (by decide) rfl (by decide) dX11_init_106 ?_
  refine g_rload_n hg dX11_init_109 rfl 0 rfl ?_
  refine g_getR (r := 158) hg fl_X11_61 ly1 rfl (by decide) rfl (by decide) dX11_init_110 ?_
  refine g_callI (As := [rr E.1 22, rr E.1 158]) (rest := [rr E.1 162, rr E.1 1]) hg (ct_drawer (by omega) (Zr_up (zr_chances (Zr_up (zr_book (Zr_up hzML (by decide))) (by decide))) (by decide))) ci_X11_67 rfl rfl (Nat.le_of_ble_eq_true rfl) (by decide) dX11_init_113 ?_
  refine g_putF hg hnm ff_X11_70 ly1 rfl (by decide) (by decide) rfl rfl dX11_init_116 ?_
  refine g_rload_n hg dX11_init_119 rfl 0 rfl ?_
  refine g_new (ci := 9) hg rfl ly174 ⟨wx2_203, wx2_204, w1_15⟩ (Zr_up (zr_drawer (Zr_up (zr_chances (Zr_up (zr_book (Zr_up hzML (by decide))) (by decide))) (by decide))) (by decide)) (by decide) dX11_init_120 ?_
  refine g_dup hg dX11_init_123 rfl ?_
  refine g_rload_n hg dX11_init_124 rfl 0 rfl ?_
  refine g_getR (r := 22) hg fl_X11_45 ly1 rfl (by decide) rfl (by decide) dX11_init_125 ?_
  refine g_callI (As := [rr E.1 22]) (rest := [rr E.1 174, rr E.1 1]) hg (ct_planner (by omega) (Zr_up (zr_drawer (Zr_up (zr_chances (Zr_up (zr_book (Zr_up hzML (by decide))) (by decide))) (by decide))) (by decide))) ci_X11_76 rfl rfl (Nat.le_of_ble_eq_true rfl) (by decide) dX11_init_128 ?_
  refine g_putF hg hnm ff_X11_79 ly1 rfl (by decide) (by decide) rfl rfl dX11_init_131 ?_
  refine g_rload_n hg dX11_init_134 rfl 0 rfl ?_
  refine g_new (ci := 8) hg rfl ly179 ⟨wx3_9, wx3_10, w1_16⟩ (Zr_up (zr_planner (Zr_up (zr_drawer (Zr_up (zr_chances (Zr_up (zr_book (Zr_up hzML (by decide))) (by decide))) (by decide))) (by decide))) (by decide)) (by decide) dX11_init_135 ?_
  refine g_dup hg dX11_init_138 rfl ?_
  refine g_rload_n hg dX11_init_139 rfl 0 rfl ?_
  refine g_getR (r := 22) hg fl_X11_45 ly1 rfl (by decide) rfl (by decide) dX11_init_140 ?_
  refine g_rload_n hg dX11_init_143 rfl 0 rfl ?_
  refine g_getR (r := 34) hg fl_X11_52 ly1 rfl (by decide) rfl (by decide) dX11_init_144 ?_
  refine g_rload_n hg dX11_init_147 rfl 0 rfl ?_
  refine g_getR (r := 158) hg fl_X11_61 ly1 rfl (by decide) rfl (by decide) dX11_init_148 ?_
  refine g_callI (As := [rr E.1 22, rr E.1 34, rr E.1 158]) (rest := [rr E.1 179, rr E.1 1]) hg (ct_oldmap (by omega) (Zr_up (zr_planner (Zr_up (zr_drawer (Zr_up (zr_chances (Zr_up (zr_book (Zr_up hzML (by decide))) (by decide))) (by decide))) (by decide))) (by decide))) ci_X11_85 rfl rfl (Nat.le_of_ble_eq_true rfl) (by decide) dX11_init_151 ?_
  refine g_putF hg hnm ff_X11_88 ly1 rfl (by decide) (by decide) rfl rfl dX11_init_154 ?_
  refine g_rload_n hg dX11_init_157 rfl 0 rfl ?_
  refine g_new (ci := 0) hg rfl ly188 ⟨wx3_34, wx3_35, w1_17⟩ (Zr_up (zr_oldmap (Zr_up (zr_planner (Zr_up (zr_drawer (Zr_up (zr_chances (Zr_up (zr_book (Zr_up hzML (by decide))) (by decide))) (by decide))) (by decide))) (by decide))) (by decide)) (by decide) dX11_init_158 ?_
  refine g_dup hg dX11_init_161 rfl ?_
  refine g_rload_n hg dX11_init_162 rfl 0 rfl ?_
  refine g_getR (r := 34) hg fl_X11_52 ly1 rfl (by decide) rfl (by decide) dX11_init_163 ?_
  refine g_callI (As := [rr E.1 34]) (rest := [rr E.1 188, rr E.1 1]) hg (ct_agree (by omega) (Zr_up (zr_oldmap (Zr_up (zr_planner (Zr_up (zr_drawer (Zr_up (zr_chances (Zr_up (zr_book (Zr_up hzML (by decide))) (by decide))) (by decide))) (by decide))) (by decide))) (by decide))) ci_X11_94 rfl rfl (Nat.le_of_ble_eq_true rfl) (by decide) dX11_init_166 ?_
  refine g_putF hg hnm ff_X11_97 ly1 rfl (by decide) (by decide) rfl rfl dX11_init_169 ?_
  refine g_rload_n hg dX11_init_172 rfl 0 rfl ?_
  refine g_bipush hg dX11_init_173 kB_8 ?_
  refine g_newa (t := 0) (ty := .int) (N := 8) hg rfl (fun _ => rfl) (fun _ _ h => h) ly193 av_i wx1_129 (by decide) (by decide) (by decide) (Zr_up (zr_agree (Zr_up (zr_oldmap (Zr_up (zr_planner (Zr_up (zr_drawer (Zr_up (zr_chances (Zr_up (zr_book (Zr_up hzML (by decide))) (by decide))) (by decide))) (by decide))) (by decide))) (by decide))) (by decide)) (by decide) dX11_init_175 ?_
  refine g_putF hg hnm ff_X11_101 ly1 rfl (by decide) (by decide) rfl rfl dX11_init_177 ?_
  exact g_vret hg hr dX11_init_180
def mmW (M : Mm) : Mm := (sI (sI (sI (sI (sI (sI (sI (sI (sI (sI (sI (sI (sI (sI (sI (sI (sI (sI (sI (sI (sI (sI (sI (sI (sI (sI (sI (sI (sI (sI (sI (sI (sI (sI (sI (sI (sI (sI (sI (sI (sI (sI (sI (sI (sI (sI (sI (sI (sI (sI (sI (sI (sI (sI (sI (sI (sI (sI (sI (sI (sI (sI (sI (sI (sI (sI (sI (sI (sI (sI (sI (sI (sI (sI (sI (sI (sI (sI (sI (sI (sI (sI (sI (sI (sI (sI (sI (sI (sI (sI (sI (sI (sI (sI (sI (sI (sI (sI (sI (sI (sI (sI (sI (sI (sI (sI (sI (sI (sI (sI (sI (sI (sI (sI (sI (sI (sI (sI (sI (sI (sI M 201 ((0 : Int32).toNatClampNeg) 115) 201 ((1 : Int32).toNatClampNeg) 97) 201 ((2 : Int32).toNatClampNeg) 110) 201 ((3 : Int32).toNatClampNeg) 100) 201 ((4 : Int32).toNatClampNeg) 32) 201 ((5 : Int32).toNatClampNeg) 115) 201 ((6 : Int32).toNatClampNeg) 105) 201 ((7 : Int32).toNatClampNeg) 108) 201 ((8 : Int32).toNatClampNeg) 116) 201 ((9 : Int32).toNatClampNeg) 32) 201 ((10 : Int32).toNatClampNeg) 108) 201 ((11 : Int32).toNatClampNeg) 111) 201 ((12 : Int32).toNatClampNeg) 97) 201 ((13 : Int32).toNatClampNeg) 109) 201 ((14 : Int32).toNatClampNeg) 32) 201 ((15 : Int32).toNatClampNeg) 99) 201 ((16 : Int32).toNatClampNeg) 108) 201 ((17 : Int32).toNatClampNeg) 97) 201 ((18 : Int32).toNatClampNeg) 121) 201 ((19 : Int32).toNatClampNeg) 32) 201 ((20 : Int32).toNatClampNeg) 112) 201 ((21 : Int32).toNatClampNeg) 101) 201 ((22 : Int32).toNatClampNeg) 97) 201 ((23 : Int32).toNatClampNeg) 116) 201 ((24 : Int32).toNatClampNeg) 32) 201 ((25 : Int32).toNatClampNeg) 99) 201 ((26 : Int32).toNatClampNeg) 104) 201 ((27 : Int32).toNatClampNeg) 97) 201 ((28 : Int32).toNatClampNeg) 108) 201 ((29 : Int32).toNatClampNeg) 107) 201 ((30 : Int32).toNatClampNeg) 32) 201 ((31 : Int32).toNatClampNeg) 98) 201 ((32 : Int32).toNatClampNeg) 108) 201 ((33 : Int32).toNatClampNeg) 97) 201 ((34 : Int32).toNatClampNeg) 99) 201 ((35 : Int32).toNatClampNeg) 107) 201 ((36 : Int32).toNatClampNeg) 32) 201 ((37 : Int32).toNatClampNeg) 98) 201 ((38 : Int32).toNatClampNeg) 114) 201 ((39 : Int32).toNatClampNeg) 111) 201 ((40 : Int32).toNatClampNeg) 119) 201 ((41 : Int32).toNatClampNeg) 110) 201 ((42 : Int32).toNatClampNeg) 32) 201 ((43 : Int32).toNatClampNeg) 114) 201 ((44 : Int32).toNatClampNeg) 101) 201 ((45 : Int32).toNatClampNeg) 100) 201 ((46 : Int32).toNatClampNeg) 32) 201 ((47 : Int32).toNatClampNeg) 103) 201 ((48 : Int32).toNatClampNeg) 114) 201 ((49 : Int32).toNatClampNeg) 101) 201 ((50 : Int32).toNatClampNeg) 121) 201 ((51 : Int32).toNatClampNeg) 32) 201 ((52 : Int32).toNatClampNeg) 119) 201 ((53 : Int32).toNatClampNeg) 104) 201 ((54 : Int32).toNatClampNeg) 105) 201 ((55 : Int32).toNatClampNeg) 116) 201 ((56 : Int32).toNatClampNeg) 101) 201 ((57 : Int32).toNatClampNeg) 32) 201 ((58 : Int32).toNatClampNeg) 109) 201 ((59 : Int32).toNatClampNeg) 111) 201 ((60 : Int32).toNatClampNeg) 116) 201 ((61 : Int32).toNatClampNeg) 116) 201 ((62 : Int32).toNatClampNeg) 108) 201 ((63 : Int32).toNatClampNeg) 101) 201 ((64 : Int32).toNatClampNeg) 100) 201 ((65 : Int32).toNatClampNeg) 32) 201 ((66 : Int32).toNatClampNeg) 115) 201 ((67 : Int32).toNatClampNeg) 116) 201 ((68 : Int32).toNatClampNeg) 111) 201 ((69 : Int32).toNatClampNeg) 110) 201 ((70 : Int32).toNatClampNeg) 101) 201 ((71 : Int32).toNatClampNeg) 115) 201 ((72 : Int32).toNatClampNeg) 32) 201 ((73 : Int32).toNatClampNeg) 111) 201 ((74 : Int32).toNatClampNeg) 114) 201 ((75 : Int32).toNatClampNeg) 32) 201 ((76 : Int32).toNatClampNeg) 97) 201 ((77 : Int32).toNatClampNeg) 110) 201 ((78 : Int32).toNatClampNeg) 100) 201 ((79 : Int32).toNatClampNeg) 32) 201 ((80 : Int32).toNatClampNeg) 110) 201 ((81 : Int32).toNatClampNeg) 111) 201 ((82 : Int32).toNatClampNeg) 116) 201 ((83 : Int32).toNatClampNeg) 32) 201 ((84 : Int32).toNatClampNeg) 97) 201 ((85 : Int32).toNatClampNeg) 108) 201 ((86 : Int32).toNatClampNeg) 119) 201 ((87 : Int32).toNatClampNeg) 97) 201 ((88 : Int32).toNatClampNeg) 121) 201 ((89 : Int32).toNatClampNeg) 115) 201 ((90 : Int32).toNatClampNeg) 32) 201 ((91 : Int32).toNatClampNeg) 97) 201 ((92 : Int32).toNatClampNeg) 110) 201 ((93 : Int32).toNatClampNeg) 121) 201 ((94 : Int32).toNatClampNeg) 32) 201 ((95 : Int32).toNatClampNeg) 97) 201 ((96 : Int32).toNatClampNeg) 108) 201 ((97 : Int32).toNatClampNeg) 108) 201 ((98 : Int32).toNatClampNeg) 32) 201 ((99 : Int32).toNatClampNeg) 97) 201 ((100 : Int32).toNatClampNeg) 116) 201 ((101 : Int32).toNatClampNeg) 32) 201 ((102 : Int32).toNatClampNeg) 116) 201 ((103 : Int32).toNatClampNeg) 104) 201 ((104 : Int32).toNatClampNeg) 105) 201 ((105 : Int32).toNatClampNeg) 99) 201 ((106 : Int32).toNatClampNeg) 107) 201 ((107 : Int32).toNatClampNeg) 32) 201 ((108 : Int32).toNatClampNeg) 102) 201 ((109 : Int32).toNatClampNeg) 114) 201 ((110 : Int32).toNatClampNeg) 111) 201 ((111 : Int32).toNatClampNeg) 109) 201 ((112 : Int32).toNatClampNeg) 32) 201 ((113 : Int32).toNatClampNeg) 100) 201 ((114 : Int32).toNatClampNeg) 101) 201 ((115 : Int32).toNatClampNeg) 101) 201 ((116 : Int32).toNatClampNeg) 112) 201 ((117 : Int32).toNatClampNeg) 32) 201 ((118 : Int32).toNatClampNeg) 99) 201 ((119 : Int32).toNatClampNeg) 109) 201 ((120 : Int32).toNatClampNeg) 32)
theorem zrW {M : Mm} {Rf : Nat → Nat → Nat} (hz : Zr 202 M Rf) : Zr 202 (mmW M) Rf := by
  unfold mmW
  repeat (first | exact hz | refine Zr_sI ?_ (by decide))
def rf_model (Rf : Nat → Nat → Nat) : Nat → Nat → Nat := (up2 (up2 (up2 (up2 (up2 (up2 (up2 (up2 (up2 (up2 (up2 (up2 (up2 (up2 (up2 (up2 (up2 (up2 (up2 (up2 (up2 (up2 (up2 (up2 (up2 (up2 (up2 (up2 (up2 (up2 (up2 (up2 (up2 (up2 (up2 (up2 (up2 (up2 (up2 (up2 (up2 (up2 (up2 Rf 194 0 195) 194 5 196) 194 6 197) 194 7 198) 194 8 199) 194 9 200) 194 16 201) 194 27 202) 194 28 203) 194 29 204) 194 30 205) 194 31 206) 194 32 207) 194 39 208) 194 40 209) 194 41 210) 194 42 211) 194 43 212) 194 44 213) 194 45 214) 194 46 215) 194 47 216) 194 48 217) 194 49 218) 194 51 219) 194 52 220) 194 54 221) 194 59 222) 194 60 223) 194 61 224) 194 62 225) 194 63 226) 194 64 227) 194 65 228) 194 67 229) 194 68 230) 194 69 231) 194 71 232) 194 72 233) 194 73 234) 194 76 235) 194 79 236) 194 80 237)
theorem rfok_model0 {M : Mm} {Rf : Nat → Nat → Nat} (hz : Zr 194 M Rf) : RfOk 194 238 (14, 6) (rf_model Rf) := fun id k h1 h2 hk => by
  have e : rf_model Rf id k = rf_model (fun _ _ => 0) id k := by simp only [rf_model, up2, upR, (hz id h1 k).2.2]
  rw [e, rT_sw (14, 6) (0, 0) id k (by omega) (by omega)]
  exact (by decide +kernel : ∀ id, id < 238 → ∀ k, k < 96 → 194 ≤ id → rf_model (fun _ _ => 0) id k = rT (0, 0) id k) id h2 k hk h1
theorem ct_model {l0 : Launch} {E : En} {d : Nat} {Rf : Nat → Nat → Nat} {M : Mm} (hd : 2 ≤ d) (hz : Zr 194 M Rf) {MB : Mm} (hMB : sX12_bare (sI (mmW (sI (sI (sI (sI (sI (sI (sI (sI M 194 3 4) 194 4 4) 194 10 5) 194 11 20) 194 12 30) 194 13 60) 194 14 300) 194 15 100)) 194 18 (-1)) = some MB) : Ct l0 E yX12_init cX12_init 1 none d 43 6940 [rr E.1 194] true 195 Rf M 238 (rf_model Rf) none MB := by
  obtain ⟨d, rfl⟩ := Nat.exists_eq_add_of_le' hd
  have hz0 := hz
  replace hz := Zr_mono hz (by decide : 194 ≤ 195)
  refine Ct.of pnX12 (Nat.le_of_ble_eq_true rfl) (fun g hg hr hnm => ?_)
  replace hg : Ok g l0 E cX12_init RX12 1 (d + 2) 43 6940 := hg
  show WG g E 1 195 Rf true 0 0 0 [(0, rr E.1 194)] [] M
  refine g_rload_n hg dX12_init_0 rfl 0 rfl ?_
  refine g_objI hg wx6_12 (Nat.le_of_ble_eq_true rfl) dX12_init_1 ?_
  refine g_rload_n hg dX12_init_4 rfl 0 rfl ?_
  refine g_sipush hg dX12_init_5 kS_800 ?_
  refine g_newa (t := 0) (ty := .int) (N := 800) hg rfl (fun _ => rfl) (fun _ _ h => h) ly195 av_i wx1_129 (by decide) (by decide) (by decide) hz (by decide) dX12_init_8 ?_
  refine g_putF hg hnm ff_X12_7 ly194 rfl (by decide) (by decide) rfl rfl dX12_init_10 ?_
  refine g_rload_n hg dX12_init_13 rfl 0 rfl ?_
  refine g_iconst hg dX12_init_14 kI_4 ?_
  refine g_putI hg fp_X12_13 ly194 rfl (by decide) dX12_init_15 ?_
  refine g_rload_n hg dX12_init_18 rfl 0 rfl ?_
  refine g_iconst hg dX12_init_19 kI_4 ?_
  refine g_putI hg fp_X12_17 ly194 rfl (by decide) dX12_init_20 ?_
  refine g_rload_n hg dX12_init_23 rfl 0 rfl ?_
  refine g_bipush hg dX12_init_24 kB_64 ?_
  refine g_newa (t := 0) (ty := .int) (N := 64) hg rfl (fun _ => rfl) (fun _ _ h => h) ly196 av_i wx1_129 (by decide) (by decide) (by decide) (Zr_sI (Zr_sI (Zr_up (Zr_mono hz (by decide : 195 ≤ 196)) (by decide)) (by decide)) (by decide)) (by decide) dX12_init_26 ?_
  refine g_putF hg hnm ff_X12_20 ly194 rfl (by decide) (by decide) rfl rfl dX12_init_28 ?_
  refine g_rload_n hg dX12_init_31 rfl 0 rfl ?_
  refine g_bipush hg dX12_init_32 kB_64 ?_
  refine g_newa (t := 0) (ty := .int) (N := 64) hg rfl (fun _ => rfl) (fun _ _ h => h) ly197 av_i wx1_129 (by decide) (by decide) (by decide) (Zr_up (Zr_mono (Zr_sI (Zr_sI (Zr_up (Zr_mono hz (by decide : 195 ≤ 196)) (by decide)) (by decide)) (by decide)) (by decide : 196 ≤ 197)) (by decide)) (by decide) dX12_init_34 ?_
  refine g_putF hg hnm ff_X12_23 ly194 rfl (by decide) (by decide) rfl rfl dX12_init_36 ?_
  refine g_rload_n hg dX12_init_39 rfl 0 rfl ?_
  refine g_bipush hg dX12_init_40 kB_64 ?_
  refine g_newa (t := 0) (ty := .int) (N := 64) hg rfl (fun _ => rfl) (fun _ _ h => h) ly198 av_i wx1_129 (by decide) (by decide) (by decide) (Zr_up (Zr_mono (Zr_up (Zr_mono (Zr_sI (Zr_sI (Zr_up (Zr_mono hz (by decide : 195 ≤ 196)) (by decide)) (by decide)) (by decide)) (by decide : 196 ≤ 197)) (by decide)) (by decide : 197 ≤ 198)) (by decide)) (by decide) dX12_init_42 ?_
  refine g_putF hg hnm ff_X12_26 ly194 rfl (by decide) (by decide) rfl rfl dX12_init_44 ?_
  refine g_rload_n hg dX12_init_47 rfl 0 rfl ?_
  refine g_bipush hg dX12_init_48 kB_64 ?_
  refine g_newa (t := 0) (ty := .int) (N := 64) hg rfl (fun _ => rfl) (fun _ _ h => h) ly199 av_i wx1_129 (by decide) (by decide) (by decide) (Zr_up (Zr_mono (Zr_up (Zr_mono (Zr_up (Zr_mono (Zr_sI (Zr_sI (Zr_up (Zr_mono hz (by decide : 195 ≤ 196)) (by decide)) (by decide)) (by decide)) (by decide : 196 ≤ 197)) (by decide)) (by decide : 197 ≤ 198)) (by decide)) (by decide : 198 ≤ 199)) (by decide)) (by decide) dX12_init_50 ?_
  refine g_putF hg hnm ff_X12_29 ly194 rfl (by decide) (by decide) rfl rfl dX12_init_52 ?_
  refine g_rload_n hg dX12_init_55 rfl 0 rfl ?_
  refine g_bipush hg dX12_init_56 kB_64 ?_
  refine g_newa (t := 0) (ty := .int) (N := 64) hg rfl (fun _ => rfl) (fun _ _ h => h) ly200 av_i wx1_129 (by decide) (by decide) (by decide) (Zr_up (Zr_mono (Zr_up (Zr_mono (Zr_up (Zr_mono (Zr_up (Zr_mono (Zr_sI (Zr_sI (Zr_up (Zr_mono hz (by decide : 195 ≤ 196)) (by decide)) (by decide)) (by decide)) (by decide : 196 ≤ 197)) (by decide)) (by decide : 197 ≤ 198)) (by decide)) (by decide : 198 ≤ 199)) (by decide)) (by decide : 199 ≤ 200)) (by decide)) (by decide) dX12_init_58 ?_
  refine g_putF hg hnm ff_X12_32 ly194 rfl (by decide) (by decide) rfl rfl dX12_init_60 ?_
  refine g_rload_n hg dX12_init_63 rfl 0 rfl ?_
  refine g_iconst hg dX12_init_64 kI_5 ?_
  refine g_putI hg fp_X12_35 ly194 rfl (by decide) dX12_init_65 ?_
  refine g_rload_n hg dX12_init_68 rfl 0 rfl ?_
  refine g_bipush hg dX12_init_69 kB_20 ?_
  refine g_putI hg fp_X12_38 ly194 rfl (by decide) dX12_init_71 ?_
  refine g_rload_n hg dX12_init_74 rfl 0 rfl ?_
  refine g_bipush hg dX12_init_75 kB_30 ?_
  refine g_putI hg fp_X12_41 ly194 rfl (by decide) dX12_init_77 ?_
  refine g_rload_n hg dX12_init_80 rfl 0 rfl ?_
  refine g_bipush hg dX12_init_81 kB_60 ?_
  refine g_putI hg fp_X12_44 ly194 rfl (by decide) dX12_init_83 ?_
  refine g_rload_n hg dX12_init_86 rfl 0 rfl ?_
  refine g_sipush hg dX12_init_87 kS_300 ?_
  refine g_putI hg fp_X12_47 ly194 rfl (by decide) dX12_init_90 ?_
  refine g_rload_n hg dX12_init_93 rfl 0 rfl ?_
  refine g_bipush hg dX12_init_94 kB_100 ?_
  refine g_putI hg fp_X12_50 ly194 rfl (by decide) dX12_init_96 ?_
  refine g_rload_n hg dX12_init_99 rfl 0 rfl ?_
  refine g_bipush hg dX12_init_100 kB_121 ?_
  refine g_newa (t := 0) (ty := .int) (N := 121) hg rfl (fun _ => rfl) (fun _ _ h => h) ly201 av_i wx1_129 (by decide) (by decide) (by decide) (Zr_sI (Zr_sI (Zr_sI (Zr_sI (Zr_sI (Zr_sI (Zr_up (Zr_mono (Zr_up (Zr_mono (Zr_up (Zr_mono (Zr_up (Zr_mono (Zr_up (Zr_mono (Zr_sI (Zr_sI (Zr_up (Zr_mono hz (by decide : 195 ≤ 196)) (by decide)) (by decide)) (by decide)) (by decide : 196 ≤ 197)) (by decide)) (by decide : 197 ≤ 198)) (by decide)) (by decide : 198 ≤ 199)) (by decide)) (by decide : 199 ≤ 200)) (by decide)) (by decide : 200 ≤ 201)) (by decide)) (by decide)) (by decide)) (by decide)) (by decide)) (by decide)) (by decide)) (by decide) dX12_init_102 ?_
  refine g_dup hg dX12_init_104 rfl ?_
  refine g_iconst hg dX12_init_105 kI_0 ?_
  refine g_bipush hg dX12_init_106 kB_115 ?_
  refine g_iast hg ly201 (by decide) (inb_vp (by decide)) dX12_init_108 ?_
  refine g_dup hg dX12_init_109 rfl ?_
  refine g_iconst hg dX12_init_110 kI_1 ?_
  refine g_bipush hg dX12_init_111 kB_97 ?_
  refine g_iast hg ly201 (by decide) (inb_vp (by decide)) dX12_init_113 ?_
  refine g_dup hg dX12_init_114 rfl ?_
  refine g_iconst hg dX12_init_115 kI_2 ?_
  refine g_bipush hg dX12_init_116 kB_110 ?_
  refine g_iast hg ly201 (by decide) (inb_vp (by decide)) dX12_init_118 ?_
  refine g_dup hg dX12_init_119 rfl ?_
  refine g_iconst hg dX12_init_120 kI_3 ?_
  refine g_bipush hg dX12_init_121 kB_100 ?_
  refine g_iast hg ly201 (by decide) (inb_vp (by decide)) dX12_init_123 ?_
  refine g_dup hg dX12_init_124 rfl ?_
  refine g_iconst hg dX12_init_125 kI_4 ?_
  refine g_bipush hg dX12_init_126 kB_32 ?_
  refine g_iast hg ly201 (by decide) (inb_vp (by decide)) dX12_init_128 ?_
  refine g_dup hg dX12_init_129 rfl ?_
  refine g_iconst hg dX12_init_130 kI_5 ?_
  refine g_bipush hg dX12_init_131 kB_115 ?_
  refine g_iast hg ly201 (by decide) (inb_vp (by decide)) dX12_init_133 ?_
  refine g_dup hg dX12_init_134 rfl ?_
  refine g_bipush hg dX12_init_135 kB_6 ?_
  refine g_bipush hg dX12_init_137 kB_105 ?_
  refine g_iast hg ly201 (by decide) (inb_vp (by decide)) dX12_init_139 ?_
  refine g_dup hg dX12_init_140 rfl ?_
  refine g_bipush hg dX12_init_141 kB_7 ?_
  refine g_bipush hg dX12_init_143 kB_108 ?_
  refine g_iast hg ly201 (by decide) (inb_vp (by decide)) dX12_init_145 ?_
  refine g_dup hg dX12_init_146 rfl ?_
  refine g_bipush hg dX12_init_147 kB_8 ?_
  refine g_bipush hg dX12_init_149 kB_116 ?_
  refine g_iast hg ly201 (by decide) (inb_vp (by decide)) dX12_init_151 ?_
  refine g_dup hg dX12_init_152 rfl ?_
  refine g_bipush hg dX12_init_153 kB_9 ?_
  refine g_bipush hg dX12_init_155 kB_32 ?_
  refine g_iast hg ly201 (by decide) (inb_vp (by decide)) dX12_init_157 ?_
  refine g_dup hg dX12_init_158 rfl ?_
  refine g_bipush hg dX12_init_159 kB_10 ?_
  refine g_bipush hg dX12_init_161 kB_108 ?_
  refine g_iast hg ly201 (by decide) (inb_vp (by decide)) dX12_init_163 ?_
  refine g_dup hg dX12_init_164 rfl ?_
  refine g_bipush hg dX12_init_165 kB_11 ?_
  refine g_bipush hg dX12_init_167 kB_111 ?_
  refine g_iast hg ly201 (by decide) (inb_vp (by decide)) dX12_init_169 ?_
  refine g_dup hg dX12_init_170 rfl ?_
  refine g_bipush hg dX12_init_171 kB_12 ?_
  refine g_bipush hg dX12_init_173 kB_97 ?_
  refine g_iast hg ly201 (by decide) (inb_vp (by decide)) dX12_init_175 ?_
  refine g_dup hg dX12_init_176 rfl ?_
  refine g_bipush hg dX12_init_177 kB_13 ?_
  refine g_bipush hg dX12_init_179 kB_109 ?_
  refine g_iast hg ly201 (by decide) (inb_vp (by decide)) dX12_init_181 ?_
  refine g_dup hg dX12_init_182 rfl ?_
  refine g_bipush hg dX12_init_183 kB_14 ?_
  refine g_bipush hg dX12_init_185 kB_32 ?_
  refine g_iast hg ly201 (by decide) (inb_vp (by decide)) dX12_init_187 ?_
  refine g_dup hg dX12_init_188 rfl ?_
  refine g_bipush hg dX12_init_189 kB_15 ?_
  refine g_bipush hg dX12_init_191 kB_99 ?_
  refine g_iast hg ly201 (by decide) (inb_vp (by decide)) dX12_init_193 ?_
  refine g_dup hg dX12_init_194 rfl ?_
  refine g_bipush hg dX12_init_195 kB_16 ?_
  refine g_bipush hg dX12_init_197 kB_108 ?_
  refine g_iast hg ly201 (by decide) (inb_vp (by decide)) dX12_init_199 ?_
  refine g_dup hg dX12_init_200 rfl ?_
  refine g_bipush hg dX12_init_201 kB_17 ?_
  refine g_bipush hg dX12_init_203 kB_97 ?_
  refine g_iast hg ly201 (by decide) (inb_vp (by decide)) dX12_init_205 ?_
  refine g_dup hg dX12_init_206 rfl ?_
  refine g_bipush hg dX12_init_207 kB_18 ?_
  refine g_bipush hg dX12_init_209 kB_121 ?_
  refine g_iast hg ly201 (by decide) (inb_vp (by decide)) dX12_init_211 ?_
  refine g_dup hg dX12_init_212 rfl ?_
  refine g_bipush hg dX12_init_213 kB_19 ?_
  refine g_bipush hg dX12_init_215 kB_32 ?_
  refine g_iast hg ly201 (by decide) (inb_vp (by decide)) dX12_init_217 ?_
  refine g_dup hg dX12_init_218 rfl ?_
  refine g_bipush hg dX12_init_219 kB_20 ?_
  refine g_bipush hg dX12_init_221 kB_112 ?_
  refine g_iast hg ly201 (by decide) (inb_vp (by decide)) dX12_init_223 ?_
  refine g_dup hg dX12_init_224 rfl ?_
  refine g_bipush hg dX12_init_225 kB_21 ?_
  refine g_bipush hg dX12_init_227 kB_101 ?_
  refine g_iast hg ly201 (by decide) (inb_vp (by decide)) dX12_init_229 ?_
  refine g_dup hg dX12_init_230 rfl ?_
  refine g_bipush hg dX12_init_231 kB_22 ?_
  refine g_bipush hg dX12_init_233 kB_97 ?_
  refine g_iast hg ly201 (by decide) (inb_vp (by decide)) dX12_init_235 ?_
  refine g_dup hg dX12_init_236 rfl ?_
  refine g_bipush hg dX12_init_237 kB_23 ?_
  refine g_bipush hg dX12_init_239 kB_116 ?_
  refine g_iast hg ly201 (by decide) (inb_vp (by decide)) dX12_init_241 ?_
  refine g_dup hg dX12_init_242 rfl ?_
  refine g_bipush hg dX12_init_243 kB_24 ?_
  refine g_bipush hg dX12_init_245 kB_32 ?_
  refine g_iast hg ly201 (by decide) (inb_vp (by decide)) dX12_init_247 ?_
  refine g_dup hg dX12_init_248 rfl ?_
  refine g_bipush hg dX12_init_249 kB_25 ?_
  refine g_bipush hg dX12_init_251 kB_99 ?_
  refine g_iast hg ly201 (by decide) (inb_vp (by decide)) dX12_init_253 ?_
  refine g_dup hg dX12_init_254 rfl ?_
  refine g_bipush hg dX12_init_255 kB_26 ?_
  refine g_bipush hg dX12_init_257 kB_104 ?_
  refine g_iast hg ly201 (by decide) (inb_vp (by decide)) dX12_init_259 ?_
  refine g_dup hg dX12_init_260 rfl ?_
  refine g_bipush hg dX12_init_261 kB_27 ?_
  refine g_bipush hg dX12_init_263 kB_97 ?_
  refine g_iast hg ly201 (by decide) (inb_vp (by decide)) dX12_init_265 ?_
  refine g_dup hg dX12_init_266 rfl ?_
  refine g_bipush hg dX12_init_267 kB_28 ?_
  refine g_bipush hg dX12_init_269 kB_108 ?_
  refine g_iast hg ly201 (by decide) (inb_vp (by decide)) dX12_init_271 ?_
  refine g_dup hg dX12_init_272 rfl ?_
  refine g_bipush hg dX12_init_273 kB_29 ?_
  refine g_bipush hg dX12_init_275 kB_107 ?_
  refine g_iast hg ly201 (by decide) (inb_vp (by decide)) dX12_init_277 ?_
  refine g_dup hg dX12_init_278 rfl ?_
  refine g_bipush hg dX12_init_279 kB_30 ?_
  refine g_bipush hg dX12_init_281 kB_32 ?_
  refine g_iast hg ly201 (by decide) (inb_vp (by decide)) dX12_init_283 ?_
  refine g_dup hg dX12_init_284 rfl ?_
  refine g_bipush hg dX12_init_285 kB_31 ?_
  refine g_bipush hg dX12_init_287 kB_98 ?_
  refine g_iast hg ly201 (by decide) (inb_vp (by decide)) dX12_init_289 ?_
  refine g_dup hg dX12_init_290 rfl ?_
  refine g_bipush hg dX12_init_291 kB_32 ?_
  refine g_bipush hg dX12_init_293 kB_108 ?_
  refine g_iast hg ly201 (by decide) (inb_vp (by decide)) dX12_init_295 ?_
  refine g_dup hg dX12_init_296 rfl ?_
  refine g_bipush hg dX12_init_297 kB_33 ?_
  refine g_bipush hg dX12_init_299 kB_97 ?_
  refine g_iast hg ly201 (by decide) (inb_vp (by decide)) dX12_init_301 ?_
  refine g_dup hg dX12_init_302 rfl ?_
  refine g_bipush hg dX12_init_303 kB_34 ?_
  refine g_bipush hg dX12_init_305 kB_99 ?_
  refine g_iast hg ly201 (by decide) (inb_vp (by decide)) dX12_init_307 ?_
  refine g_dup hg dX12_init_308 rfl ?_
  refine g_bipush hg dX12_init_309 kB_35 ?_
  refine g_bipush hg dX12_init_311 kB_107 ?_
  refine g_iast hg ly201 (by decide) (inb_vp (by decide)) dX12_init_313 ?_
  refine g_dup hg dX12_init_314 rfl ?_
  refine g_bipush hg dX12_init_315 kB_36 ?_
  refine g_bipush hg dX12_init_317 kB_32 ?_
  refine g_iast hg ly201 (by decide) (inb_vp (by decide)) dX12_init_319 ?_
  refine g_dup hg dX12_init_320 rfl ?_
  refine g_bipush hg dX12_init_321 kB_37 ?_
  refine g_bipush hg dX12_init_323 kB_98 ?_
  refine g_iast hg ly201 (by decide) (inb_vp (by decide)) dX12_init_325 ?_
  refine g_dup hg dX12_init_326 rfl ?_
  refine g_bipush hg dX12_init_327 kB_38 ?_
  refine g_bipush hg dX12_init_329 kB_114 ?_
  refine g_iast hg ly201 (by decide) (inb_vp (by decide)) dX12_init_331 ?_
  refine g_dup hg dX12_init_332 rfl ?_
  refine g_bipush hg dX12_init_333 kB_39 ?_
  refine g_bipush hg dX12_init_335 kB_111 ?_
  refine g_iast hg ly201 (by decide) (inb_vp (by decide)) dX12_init_337 ?_
  refine g_dup hg dX12_init_338 rfl ?_
  refine g_bipush hg dX12_init_339 kB_40 ?_
  refine g_bipush hg dX12_init_341 kB_119 ?_
  refine g_iast hg ly201 (by decide) (inb_vp (by decide)) dX12_init_343 ?_
  refine g_dup hg dX12_init_344 rfl ?_
  refine g_bipush hg dX12_init_345 kB_41 ?_
  refine g_bipush hg dX12_init_347 kB_110 ?_
  refine g_iast hg ly201 (by decide) (inb_vp (by decide)) dX12_init_349 ?_
  refine g_dup hg dX12_init_350 rfl ?_
  refine g_bipush hg dX12_init_351 kB_42 ?_
  refine g_bipush hg dX12_init_353 kB_32 ?_
  refine g_iast hg ly201 (by decide) (inb_vp (by decide)) dX12_init_355 ?_
  refine g_dup hg dX12_init_356 rfl ?_
  refine g_bipush hg dX12_init_357 kB_43 ?_
  refine g_bipush hg dX12_init_359 kB_114 ?_
  refine g_iast hg ly201 (by decide) (inb_vp (by decide)) dX12_init_361 ?_
  refine g_dup hg dX12_init_362 rfl ?_
  refine g_bipush hg dX12_init_363 kB_44 ?_
  refine g_bipush hg dX12_init_365 kB_101 ?_
  refine g_iast hg ly201 (by decide) (inb_vp (by decide)) dX12_init_367 ?_
  refine g_dup hg dX12_init_368 rfl ?_
  refine g_bipush hg dX12_init_369 kB_45 ?_
  refine g_bipush hg dX12_init_371 kB_100 ?_
  refine g_iast hg ly201 (by decide) (inb_vp (by decide)) dX12_init_373 ?_
  refine g_dup hg dX12_init_374 rfl ?_
  refine g_bipush hg dX12_init_375 kB_46 ?_
  refine g_bipush hg dX12_init_377 kB_32 ?_
  refine g_iast hg ly201 (by decide) (inb_vp (by decide)) dX12_init_379 ?_
  refine g_dup hg dX12_init_380 rfl ?_
  refine g_bipush hg dX12_init_381 kB_47 ?_
  refine g_bipush hg dX12_init_383 kB_103 ?_
  refine g_iast hg ly201 (by decide) (inb_vp (by decide)) dX12_init_385 ?_
  refine g_dup hg dX12_init_386 rfl ?_
  refine g_bipush hg dX12_init_387 kB_48 ?_
  refine g_bipush hg dX12_init_389 kB_114 ?_
  refine g_iast hg ly201 (by decide) (inb_vp (by decide)) dX12_init_391 ?_
  refine g_dup hg dX12_init_392 rfl ?_
  refine g_bipush hg dX12_init_393 kB_49 ?_
  refine g_bipush hg dX12_init_395 kB_101 ?_
  refine g_iast hg ly201 (by decide) (inb_vp (by decide)) dX12_init_397 ?_
  refine g_dup hg dX12_init_398 rfl ?_
  refine g_bipush hg dX12_init_399 kB_50 ?_
  refine g_bipush hg dX12_init_401 kB_121 ?_
  refine g_iast hg ly201 (by decide) (inb_vp (by decide)) dX12_init_403 ?_
  refine g_dup hg dX12_init_404 rfl ?_
  refine g_bipush hg dX12_init_405 kB_51 ?_
  refine g_bipush hg dX12_init_407 kB_32 ?_
  refine g_iast hg ly201 (by decide) (inb_vp (by decide)) dX12_init_409 ?_
  refine g_dup hg dX12_init_410 rfl ?_
  refine g_bipush hg dX12_init_411 kB_52 ?_
  refine g_bipush hg dX12_init_413 kB_119 ?_
  refine g_iast hg ly201 (by decide) (inb_vp (by decide)) dX12_init_415 ?_
  refine g_dup hg dX12_init_416 rfl ?_
  refine g_bipush hg dX12_init_417 kB_53 ?_
  refine g_bipush hg dX12_init_419 kB_104 ?_
  refine g_iast hg ly201 (by decide) (inb_vp (by decide)) dX12_init_421 ?_
  refine g_dup hg dX12_init_422 rfl ?_
  refine g_bipush hg dX12_init_423 kB_54 ?_
  refine g_bipush hg dX12_init_425 kB_105 ?_
  refine g_iast hg ly201 (by decide) (inb_vp (by decide)) dX12_init_427 ?_
  refine g_dup hg dX12_init_428 rfl ?_
  refine g_bipush hg dX12_init_429 kB_55 ?_
  refine g_bipush hg dX12_init_431 kB_116 ?_
  refine g_iast hg ly201 (by decide) (inb_vp (by decide)) dX12_init_433 ?_
  refine g_dup hg dX12_init_434 rfl ?_
  refine g_bipush hg dX12_init_435 kB_56 ?_
  refine g_bipush hg dX12_init_437 kB_101 ?_
  refine g_iast hg ly201 (by decide) (inb_vp (by decide)) dX12_init_439 ?_
  refine g_dup hg dX12_init_440 rfl ?_
  refine g_bipush hg dX12_init_441 kB_57 ?_
  refine g_bipush hg dX12_init_443 kB_32 ?_
  refine g_iast hg ly201 (by decide) (inb_vp (by decide)) dX12_init_445 ?_
  refine g_dup hg dX12_init_446 rfl ?_
  refine g_bipush hg dX12_init_447 kB_58 ?_
  refine g_bipush hg dX12_init_449 kB_109 ?_
  refine g_iast hg ly201 (by decide) (inb_vp (by decide)) dX12_init_451 ?_
  refine g_dup hg dX12_init_452 rfl ?_
  refine g_bipush hg dX12_init_453 kB_59 ?_
  refine g_bipush hg dX12_init_455 kB_111 ?_
  refine g_iast hg ly201 (by decide) (inb_vp (by decide)) dX12_init_457 ?_
  refine g_dup hg dX12_init_458 rfl ?_
  refine g_bipush hg dX12_init_459 kB_60 ?_
  refine g_bipush hg dX12_init_461 kB_116 ?_
  refine g_iast hg ly201 (by decide) (inb_vp (by decide)) dX12_init_463 ?_
  refine g_dup hg dX12_init_464 rfl ?_
  refine g_bipush hg dX12_init_465 kB_61 ?_
  refine g_bipush hg dX12_init_467 kB_116 ?_
  refine g_iast hg ly201 (by decide) (inb_vp (by decide)) dX12_init_469 ?_
  refine g_dup hg dX12_init_470 rfl ?_
  refine g_bipush hg dX12_init_471 kB_62 ?_
  refine g_bipush hg dX12_init_473 kB_108 ?_
  refine g_iast hg ly201 (by decide) (inb_vp (by decide)) dX12_init_475 ?_
  refine g_dup hg dX12_init_476 rfl ?_
  refine g_bipush hg dX12_init_477 kB_63 ?_
  refine g_bipush hg dX12_init_479 kB_101 ?_
  refine g_iast hg ly201 (by decide) (inb_vp (by decide)) dX12_init_481 ?_
  refine g_dup hg dX12_init_482 rfl ?_
  refine g_bipush hg dX12_init_483 kB_64 ?_
  refine g_bipush hg dX12_init_485 kB_100 ?_
  refine g_iast hg ly201 (by decide) (inb_vp (by decide)) dX12_init_487 ?_
  refine g_dup hg dX12_init_488 rfl ?_
  refine g_bipush hg dX12_init_489 kB_65 ?_
  refine g_bipush hg dX12_init_491 kB_32 ?_
  refine g_iast hg ly201 (by decide) (inb_vp (by decide)) dX12_init_493 ?_
  refine g_dup hg dX12_init_494 rfl ?_
  refine g_bipush hg dX12_init_495 kB_66 ?_
  refine g_bipush hg dX12_init_497 kB_115 ?_
  refine g_iast hg ly201 (by decide) (inb_vp (by decide)) dX12_init_499 ?_
  refine g_dup hg dX12_init_500 rfl ?_
  refine g_bipush hg dX12_init_501 kB_67 ?_
  refine g_bipush hg dX12_init_503 kB_116 ?_
  refine g_iast hg ly201 (by decide) (inb_vp (by decide)) dX12_init_505 ?_
  refine g_dup hg dX12_init_506 rfl ?_
  refine g_bipush hg dX12_init_507 kB_68 ?_
  refine g_bipush hg dX12_init_509 kB_111 ?_
  refine g_iast hg ly201 (by decide) (inb_vp (by decide)) dX12_init_511 ?_
  refine g_dup hg dX12_init_512 rfl ?_
  refine g_bipush hg dX12_init_513 kB_69 ?_
  refine g_bipush hg dX12_init_515 kB_110 ?_
  refine g_iast hg ly201 (by decide) (inb_vp (by decide)) dX12_init_517 ?_
  refine g_dup hg dX12_init_518 rfl ?_
  refine g_bipush hg dX12_init_519 kB_70 ?_
  refine g_bipush hg dX12_init_521 kB_101 ?_
  refine g_iast hg ly201 (by decide) (inb_vp (by decide)) dX12_init_523 ?_
  refine g_dup hg dX12_init_524 rfl ?_
  refine g_bipush hg dX12_init_525 kB_71 ?_
  refine g_bipush hg dX12_init_527 kB_115 ?_
  refine g_iast hg ly201 (by decide) (inb_vp (by decide)) dX12_init_529 ?_
  refine g_dup hg dX12_init_530 rfl ?_
  refine g_bipush hg dX12_init_531 kB_72 ?_
  refine g_bipush hg dX12_init_533 kB_32 ?_
  refine g_iast hg ly201 (by decide) (inb_vp (by decide)) dX12_init_535 ?_
  refine g_dup hg dX12_init_536 rfl ?_
  refine g_bipush hg dX12_init_537 kB_73 ?_
  refine g_bipush hg dX12_init_539 kB_111 ?_
  refine g_iast hg ly201 (by decide) (inb_vp (by decide)) dX12_init_541 ?_
  refine g_dup hg dX12_init_542 rfl ?_
  refine g_bipush hg dX12_init_543 kB_74 ?_
  refine g_bipush hg dX12_init_545 kB_114 ?_
  refine g_iast hg ly201 (by decide) (inb_vp (by decide)) dX12_init_547 ?_
  refine g_dup hg dX12_init_548 rfl ?_
  refine g_bipush hg dX12_init_549 kB_75 ?_
  refine g_bipush hg dX12_init_551 kB_32 ?_
  refine g_iast hg ly201 (by decide) (inb_vp (by decide)) dX12_init_553 ?_
  refine g_dup hg dX12_init_554 rfl ?_
  refine g_bipush hg dX12_init_555 kB_76 ?_
  refine g_bipush hg dX12_init_557 kB_97 ?_
  refine g_iast hg ly201 (by decide) (inb_vp (by decide)) dX12_init_559 ?_
  refine g_dup hg dX12_init_560 rfl ?_
  refine g_bipush hg dX12_init_561 kB_77 ?_
  refine g_bipush hg dX12_init_563 kB_110 ?_
  refine g_iast hg ly201 (by decide) (inb_vp (by decide)) dX12_init_565 ?_
  refine g_dup hg dX12_init_566 rfl ?_
  refine g_bipush hg dX12_init_567 kB_78 ?_
  refine g_bipush hg dX12_init_569 kB_100 ?_
  refine g_iast hg ly201 (by decide) (inb_vp (by decide)) dX12_init_571 ?_
  refine g_dup hg dX12_init_572 rfl ?_
  refine g_bipush hg dX12_init_573 kB_79 ?_
  refine g_bipush hg dX12_init_575 kB_32 ?_
  refine g_iast hg ly201 (by decide) (inb_vp (by decide)) dX12_init_577 ?_
  refine g_dup hg dX12_init_578 rfl ?_
  refine g_bipush hg dX12_init_579 kB_80 ?_
  refine g_bipush hg dX12_init_581 kB_110 ?_
  refine g_iast hg ly201 (by decide) (inb_vp (by decide)) dX12_init_583 ?_
  refine g_dup hg dX12_init_584 rfl ?_
  refine g_bipush hg dX12_init_585 kB_81 ?_
  refine g_bipush hg dX12_init_587 kB_111 ?_
  refine g_iast hg ly201 (by decide) (inb_vp (by decide)) dX12_init_589 ?_
  refine g_dup hg dX12_init_590 rfl ?_
  refine g_bipush hg dX12_init_591 kB_82 ?_
  refine g_bipush hg dX12_init_593 kB_116 ?_
  refine g_iast hg ly201 (by decide) (inb_vp (by decide)) dX12_init_595 ?_
  refine g_dup hg dX12_init_596 rfl ?_
  refine g_bipush hg dX12_init_597 kB_83 ?_
  refine g_bipush hg dX12_init_599 kB_32 ?_
  refine g_iast hg ly201 (by decide) (inb_vp (by decide)) dX12_init_601 ?_
  refine g_dup hg dX12_init_602 rfl ?_
  refine g_bipush hg dX12_init_603 kB_84 ?_
  refine g_bipush hg dX12_init_605 kB_97 ?_
  refine g_iast hg ly201 (by decide) (inb_vp (by decide)) dX12_init_607 ?_
  refine g_dup hg dX12_init_608 rfl ?_
  refine g_bipush hg dX12_init_609 kB_85 ?_
  refine g_bipush hg dX12_init_611 kB_108 ?_
  refine g_iast hg ly201 (by decide) (inb_vp (by decide)) dX12_init_613 ?_
  refine g_dup hg dX12_init_614 rfl ?_
  refine g_bipush hg dX12_init_615 kB_86 ?_
  refine g_bipush hg dX12_init_617 kB_119 ?_
  refine g_iast hg ly201 (by decide) (inb_vp (by decide)) dX12_init_619 ?_
  refine g_dup hg dX12_init_620 rfl ?_
  refine g_bipush hg dX12_init_621 kB_87 ?_
  refine g_bipush hg dX12_init_623 kB_97 ?_
  refine g_iast hg ly201 (by decide) (inb_vp (by decide)) dX12_init_625 ?_
  refine g_dup hg dX12_init_626 rfl ?_
  refine g_bipush hg dX12_init_627 kB_88 ?_
  refine g_bipush hg dX12_init_629 kB_121 ?_
  refine g_iast hg ly201 (by decide) (inb_vp (by decide)) dX12_init_631 ?_
  refine g_dup hg dX12_init_632 rfl ?_
  refine g_bipush hg dX12_init_633 kB_89 ?_
  refine g_bipush hg dX12_init_635 kB_115 ?_
  refine g_iast hg ly201 (by decide) (inb_vp (by decide)) dX12_init_637 ?_
  refine g_dup hg dX12_init_638 rfl ?_
  refine g_bipush hg dX12_init_639 kB_90 ?_
  refine g_bipush hg dX12_init_641 kB_32 ?_
  refine g_iast hg ly201 (by decide) (inb_vp (by decide)) dX12_init_643 ?_
  refine g_dup hg dX12_init_644 rfl ?_
  refine g_bipush hg dX12_init_645 kB_91 ?_
  refine g_bipush hg dX12_init_647 kB_97 ?_
  refine g_iast hg ly201 (by decide) (inb_vp (by decide)) dX12_init_649 ?_
  refine g_dup hg dX12_init_650 rfl ?_
  refine g_bipush hg dX12_init_651 kB_92 ?_
  refine g_bipush hg dX12_init_653 kB_110 ?_
  refine g_iast hg ly201 (by decide) (inb_vp (by decide)) dX12_init_655 ?_
  refine g_dup hg dX12_init_656 rfl ?_
  refine g_bipush hg dX12_init_657 kB_93 ?_
  refine g_bipush hg dX12_init_659 kB_121 ?_
  refine g_iast hg ly201 (by decide) (inb_vp (by decide)) dX12_init_661 ?_
  refine g_dup hg dX12_init_662 rfl ?_
  refine g_bipush hg dX12_init_663 kB_94 ?_
  refine g_bipush hg dX12_init_665 kB_32 ?_
  refine g_iast hg ly201 (by decide) (inb_vp (by decide)) dX12_init_667 ?_
  refine g_dup hg dX12_init_668 rfl ?_
  refine g_bipush hg dX12_init_669 kB_95 ?_
  refine g_bipush hg dX12_init_671 kB_97 ?_
  refine g_iast hg ly201 (by decide) (inb_vp (by decide)) dX12_init_673 ?_
  refine g_dup hg dX12_init_674 rfl ?_
  refine g_bipush hg dX12_init_675 kB_96 ?_
  refine g_bipush hg dX12_init_677 kB_108 ?_
  refine g_iast hg ly201 (by decide) (inb_vp (by decide)) dX12_init_679 ?_
  refine g_dup hg dX12_init_680 rfl ?_
  refine g_bipush hg dX12_init_681 kB_97 ?_
  refine g_bipush hg dX12_init_683 kB_108 ?_
  refine g_iast hg ly201 (by decide) (inb_vp (by decide)) dX12_init_685 ?_
  refine g_dup hg dX12_init_686 rfl ?_
  refine g_bipush hg dX12_init_687 kB_98 ?_
  refine g_bipush hg dX12_init_689 kB_32 ?_
  refine g_iast hg ly201 (by decide) (inb_vp (by decide)) dX12_init_691 ?_
  refine g_dup hg dX12_init_692 rfl ?_
  refine g_bipush hg dX12_init_693 kB_99 ?_
  refine g_bipush hg dX12_init_695 kB_97 ?_
  refine g_iast hg ly201 (by decide) (inb_vp (by decide)) dX12_init_697 ?_
  refine g_dup hg dX12_init_698 rfl ?_
  refine g_bipush hg dX12_init_699 kB_100 ?_
  refine g_bipush hg dX12_init_701 kB_116 ?_
  refine g_iast hg ly201 (by decide) (inb_vp (by decide)) dX12_init_703 ?_
  refine g_dup hg dX12_init_704 rfl ?_
  refine g_bipush hg dX12_init_705 kB_101 ?_
  refine g_bipush hg dX12_init_707 kB_32 ?_
  refine g_iast hg ly201 (by decide) (inb_vp (by decide)) dX12_init_709 ?_
  refine g_dup hg dX12_init_710 rfl ?_
  refine g_bipush hg dX12_init_711 kB_102 ?_
  refine g_bipush hg dX12_init_713 kB_116 ?_
  refine g_iast hg ly201 (by decide) (inb_vp (by decide)) dX12_init_715 ?_
  refine g_dup hg dX12_init_716 rfl ?_
  refine g_bipush hg dX12_init_717 kB_103 ?_
  refine g_bipush hg dX12_init_719 kB_104 ?_
  refine g_iast hg ly201 (by decide) (inb_vp (by decide)) dX12_init_721 ?_
  refine g_dup hg dX12_init_722 rfl ?_
  refine g_bipush hg dX12_init_723 kB_104 ?_
  refine g_bipush hg dX12_init_725 kB_105 ?_
  refine g_iast hg ly201 (by decide) (inb_vp (by decide)) dX12_init_727 ?_
  refine g_dup hg dX12_init_728 rfl ?_
  refine g_bipush hg dX12_init_729 kB_105 ?_
  refine g_bipush hg dX12_init_731 kB_99 ?_
  refine g_iast hg ly201 (by decide) (inb_vp (by decide)) dX12_init_733 ?_
  refine g_dup hg dX12_init_734 rfl ?_
  refine g_bipush hg dX12_init_735 kB_106 ?_
  refine g_bipush hg dX12_init_737 kB_107 ?_
  refine g_iast hg ly201 (by decide) (inb_vp (by decide)) dX12_init_739 ?_
  refine g_dup hg dX12_init_740 rfl ?_
  refine g_bipush hg dX12_init_741 kB_107 ?_
  refine g_bipush hg dX12_init_743 kB_32 ?_
  refine g_iast hg ly201 (by decide) (inb_vp (by decide)) dX12_init_745 ?_
  refine g_dup hg dX12_init_746 rfl ?_
  refine g_bipush hg dX12_init_747 kB_108 ?_
  refine g_bipush hg dX12_init_749 kB_102 ?_
  refine g_iast hg ly201 (by decide) (inb_vp (by decide)) dX12_init_751 ?_
  refine g_dup hg dX12_init_752 rfl ?_
  refine g_bipush hg dX12_init_753 kB_109 ?_
  refine g_bipush hg dX12_init_755 kB_114 ?_
  refine g_iast hg ly201 (by decide) (inb_vp (by decide)) dX12_init_757 ?_
  refine g_dup hg dX12_init_758 rfl ?_
  refine g_bipush hg dX12_init_759 kB_110 ?_
  refine g_bipush hg dX12_init_761 kB_111 ?_
  refine g_iast hg ly201 (by decide) (inb_vp (by decide)) dX12_init_763 ?_
  refine g_dup hg dX12_init_764 rfl ?_
  refine g_bipush hg dX12_init_765 kB_111 ?_
  refine g_bipush hg dX12_init_767 kB_109 ?_
  refine g_iast hg ly201 (by decide) (inb_vp (by decide)) dX12_init_769 ?_
  refine g_dup hg dX12_init_770 rfl ?_
  refine g_bipush hg dX12_init_771 kB_112 ?_
  refine g_bipush hg dX12_init_773 kB_32 ?_
  refine g_iast hg ly201 (by decide) (inb_vp (by decide)) dX12_init_775 ?_
  refine g_dup hg dX12_init_776 rfl ?_
  refine g_bipush hg dX12_init_777 kB_113 ?_
  refine g_bipush hg dX12_init_779 kB_100 ?_
  refine g_iast hg ly201 (by decide) (inb_vp (by decide)) dX12_init_781 ?_
  refine g_dup hg dX12_init_782 rfl ?_
  refine g_bipush hg dX12_init_783 kB_114 ?_
  refine g_bipush hg dX12_init_785 kB_101 ?_
  refine g_iast hg ly201 (by decide) (inb_vp (by decide)) dX12_init_787 ?_
  refine g_dup hg dX12_init_788 rfl ?_
  refine g_bipush hg dX12_init_789 kB_115 ?_
  refine g_bipush hg dX12_init_791 kB_101 ?_
  refine g_iast hg ly201 (by decide) (inb_vp (by decide)) dX12_init_793 ?_
  refine g_dup hg dX12_init_794 rfl ?_
  refine g_bipush hg dX12_init_795 kB_116 ?_
  refine g_bipush hg dX12_init_797 kB_112 ?_
  refine g_iast hg ly201 (by decide) (inb_vp (by decide)) dX12_init_799 ?_
  refine g_dup hg dX12_init_800 rfl ?_
  refine g_bipush hg dX12_init_801 kB_117 ?_
  refine g_bipush hg dX12_init_803 kB_32 ?_
  refine g_iast hg ly201 (by decide) (inb_vp (by decide)) dX12_init_805 ?_
  refine g_dup hg dX12_init_806 rfl ?_
  refine g_bipush hg dX12_init_807 kB_118 ?_
  refine g_bipush hg dX12_init_809 kB_99 ?_
  refine g_iast hg ly201 (by decide) (inb_vp (by decide)) dX12_init_811 ?_
  refine g_dup hg dX12_init_812 rfl ?_
  refine g_bipush hg dX12_init_813 kB_119 ?_
  refine g_bipush hg dX12_init_815 kB_109 ?_
  refine g_iast hg ly201 (by decide) (inb_vp (by decide)) dX12_init_817 ?_
  refine g_dup hg dX12_init_818 rfl ?_
  refine g_bipush hg dX12_init_819 kB_120 ?_
  refine g_bipush hg dX12_init_821 kB_32 ?_
  refine g_iast hg ly201 (by decide) (inb_vp (by decide)) dX12_init_823 ?_
  refine g_putF hg hnm ff_X12_53 ly194 rfl (by decide) (by decide) rfl rfl dX12_init_824 ?_
  show WG _ _ _ _ _ _ _ _ _ _ _ (mmW (sI (sI (sI (sI (sI (sI (sI (sI M 194 3 4) 194 4 4) 194 10 5) 194 11 20) 194 12 30) 194 13 60) 194 14 300) 194 15 100))
  have hzW : Zr 202 (mmW (sI (sI (sI (sI (sI (sI (sI (sI M 194 3 4) 194 4 4) 194 10 5) 194 11 20) 194 12 30) 194 13 60) 194 14 300) 194 15 100)) (up2 (up2 (up2 (up2 (up2 (up2 (up2 Rf 194 0 195) 194 5 196) 194 6 197) 194 7 198) 194 8 199) 194 9 200) 194 16 201) := Zr_up (zrW (Zr_mono (Zr_sI (Zr_sI (Zr_sI (Zr_sI (Zr_sI (Zr_sI (Zr_up (Zr_mono (Zr_up (Zr_mono (Zr_up (Zr_mono (Zr_up (Zr_mono (Zr_up (Zr_mono (Zr_sI (Zr_sI (Zr_up (Zr_mono hz (by decide : 195 ≤ 196)) (by decide)) (by decide)) (by decide)) (by decide : 196 ≤ 197)) (by decide)) (by decide : 197 ≤ 198)) (by decide)) (by decide : 198 ≤ 199)) (by decide)) (by decide : 199 ≤ 200)) (by decide)) (by decide : 200 ≤ 201)) (by decide)) (by decide)) (by decide)) (by decide)) (by decide)) (by decide)) (by decide)) (by decide : 201 ≤ 202))) (by decide)
  refine g_rload_n hg dX12_init_827 rfl 0 rfl ?_
  refine g_iconst hg dX12_init_828 kI_m1 ?_
  refine g_putI hg fp_X12_56 ly194 rfl (by decide) dX12_init_829 ?_
  refine g_rload_n hg dX12_init_832 rfl 0 rfl ?_
  refine g_bipush hg dX12_init_833 kB_60 ?_
  refine g_newa (t := 0) (ty := .int) (N := 60) hg rfl (fun _ => rfl) (fun _ _ h => h) ly202 av_i wx1_129 (by decide) (by decide) (by decide) (Zr_sI hzW (by decide)) (by decide) dX12_init_835 ?_
  refine g_putF hg hnm ff_X12_59 ly194 rfl (by decide) (by decide) rfl rfl dX12_init_837 ?_
  refine g_rload_n hg dX12_init_840 rfl 0 rfl ?_
  refine g_bipush hg dX12_init_841 kB_60 ?_
  refine g_newa (t := 0) (ty := .int) (N := 60) hg rfl (fun _ => rfl) (fun _ _ h => h) ly203 av_i wx1_129 (by decide) (by decide) (by decide) (Zr_up (Zr_mono (Zr_sI hzW (by decide)) (by decide : 202 ≤ 203)) (by decide)) (by decide) dX12_init_843 ?_
  refine g_putF hg hnm ff_X12_62 ly194 rfl (by decide) (by decide) rfl rfl dX12_init_845 ?_
  refine g_rload_n hg dX12_init_848 rfl 0 rfl ?_
  refine g_bipush hg dX12_init_849 kB_60 ?_
  refine g_newa (t := 0) (ty := .int) (N := 60) hg rfl (fun _ => rfl) (fun _ _ h => h) ly204 av_i wx1_129 (by decide) (by decide) (by decide) (Zr_up (Zr_mono (Zr_up (Zr_mono (Zr_sI hzW (by decide)) (by decide : 202 ≤ 203)) (by decide)) (by decide : 203 ≤ 204)) (by decide)) (by decide) dX12_init_851 ?_
  refine g_putF hg hnm ff_X12_65 ly194 rfl (by decide) (by decide) rfl rfl dX12_init_853 ?_
  refine g_rload_n hg dX12_init_856 rfl 0 rfl ?_
  refine g_bipush hg dX12_init_857 kB_60 ?_
  refine g_newa (t := 0) (ty := .int) (N := 60) hg rfl (fun _ => rfl) (fun _ _ h => h) ly205 av_i wx1_129 (by decide) (by decide) (by decide) (Zr_up (Zr_mono (Zr_up (Zr_mono (Zr_up (Zr_mono (Zr_sI hzW (by decide)) (by decide : 202 ≤ 203)) (by decide)) (by decide : 203 ≤ 204)) (by decide)) (by decide : 204 ≤ 205)) (by decide)) (by decide) dX12_init_859 ?_
  refine g_putF hg hnm ff_X12_68 ly194 rfl (by decide) (by decide) rfl rfl dX12_init_861 ?_
  refine g_rload_n hg dX12_init_864 rfl 0 rfl ?_
  refine g_sipush hg dX12_init_865 kS_2880 ?_
  refine g_newa (t := 0) (ty := .int) (N := 2880) hg rfl (fun _ => rfl) (fun _ _ h => h) ly206 av_i wx1_129 (by decide) (by decide) (by decide) (Zr_up (Zr_mono (Zr_up (Zr_mono (Zr_up (Zr_mono (Zr_up (Zr_mono (Zr_sI hzW (by decide)) (by decide : 202 ≤ 203)) (by decide)) (by decide : 203 ≤ 204)) (by decide)) (by decide : 204 ≤ 205)) (by decide)) (by decide : 205 ≤ 206)) (by decide)) (by decide) dX12_init_868 ?_
  refine g_putF hg hnm ff_X12_71 ly194 rfl (by decide) (by decide) rfl rfl dX12_init_870 ?_
  refine g_rload_n hg dX12_init_873 rfl 0 rfl ?_
  refine g_bipush hg dX12_init_874 kB_60 ?_
  refine g_newa (t := 1) (ty := .boolean) (N := 60) hg rfl (fun _ => rfl) (fun _ _ h => h) ly207 av_z wx2_98 (by decide) (by decide) (by decide) (Zr_up (Zr_mono (Zr_up (Zr_mono (Zr_up (Zr_mono (Zr_up (Zr_mono (Zr_up (Zr_mono (Zr_sI hzW (by decide)) (by decide : 202 ≤ 203)) (by decide)) (by decide : 203 ≤ 204)) (by decide)) (by decide : 204 ≤ 205)) (by decide)) (by decide : 205 ≤ 206)) (by decide)) (by decide : 206 ≤ 207)) (by decide)) (by decide) dX12_init_876 ?_
  refine g_putF hg hnm ff_X12_74 ly194 rfl (by decide) (by decide) rfl rfl dX12_init_878 ?_
  refine g_rload_n hg dX12_init_881 rfl 0 rfl ?_
  refine g_sipush hg dX12_init_882 kS_128 ?_
  refine g_newa (t := 0) (ty := .int) (N := 128) hg rfl (fun _ => rfl) (fun _ _ h => h) ly208 av_i wx1_129 (by decide) (by decide) (by decide) (Zr_up (Zr_mono (Zr_up (Zr_mono (Zr_up (Zr_mono (Zr_up (Zr_mono (Zr_up (Zr_mono (Zr_up (Zr_mono (Zr_sI hzW (by decide)) (by decide : 202 ≤ 203)) (by decide)) (by decide : 203 ≤ 204)) (by decide)) (by decide : 204 ≤ 205)) (by decide)) (by decide : 205 ≤ 206)) (by decide)) (by decide : 206 ≤ 207)) (by decide)) (by decide : 207 ≤ 208)) (by decide)) (by decide) dX12_init_885 ?_
  refine g_putF hg hnm ff_X12_78 ly194 rfl (by decide) (by decide) rfl rfl dX12_init_887 ?_
  refine g_rload_n hg dX12_init_890 rfl 0 rfl ?_
  refine g_bipush hg dX12_init_891 kB_16 ?_
  refine g_newa (t := 0) (ty := .int) (N := 16) hg rfl (fun _ => rfl) (fun _ _ h => h) ly209 av_i wx1_129 (by decide) (by decide) (by decide) (Zr_up (Zr_mono (Zr_up (Zr_mono (Zr_up (Zr_mono (Zr_up (Zr_mono (Zr_up (Zr_mono (Zr_up (Zr_mono (Zr_up (Zr_mono (Zr_sI hzW (by decide)) (by decide : 202 ≤ 203)) (by decide)) (by decide : 203 ≤ 204)) (by decide)) (by decide : 204 ≤ 205)) (by decide)) (by decide : 205 ≤ 206)) (by decide)) (by decide : 206 ≤ 207)) (by decide)) (by decide : 207 ≤ 208)) (by decide)) (by decide : 208 ≤ 209)) (by decide)) (by decide) dX12_init_893 ?_
  refine g_putF hg hnm ff_X12_81 ly194 rfl (by decide) (by decide) rfl rfl dX12_init_895 ?_
  refine g_rload_n hg dX12_init_898 rfl 0 rfl ?_
  refine g_bipush hg dX12_init_899 kB_32 ?_
  refine g_newa (t := 0) (ty := .int) (N := 32) hg rfl (fun _ => rfl) (fun _ _ h => h) ly210 av_i wx1_129 (by decide) (by decide) (by decide) (Zr_up (Zr_mono (Zr_up (Zr_mono (Zr_up (Zr_mono (Zr_up (Zr_mono (Zr_up (Zr_mono (Zr_up (Zr_mono (Zr_up (Zr_mono (Zr_up (Zr_mono (Zr_sI hzW (by decide)) (by decide : 202 ≤ 203)) (by decide)) (by decide : 203 ≤ 204)) (by decide)) (by decide : 204 ≤ 205)) (by decide)) (by decide : 205 ≤ 206)) (by decide)) (by decide : 206 ≤ 207)) (by decide)) (by decide : 207 ≤ 208)) (by decide)) (by decide : 208 ≤ 209)) (by decide)) (by decide : 209 ≤ 210)) (by decide)) (by decide) dX12_init_901 ?_
  refine g_putF hg hnm ff_X12_84 ly194 rfl (by decide) (by decide) rfl rfl dX12_init_903 ?_
  refine g_rload_n hg dX12_init_906 rfl 0 rfl ?_
  refine g_bipush hg dX12_init_907 kB_32 ?_
  refine g_newa (t := 0) (ty := .int) (N := 32) hg rfl (fun _ => rfl) (fun _ _ h => h) ly211 av_i wx1_129 (by decide) (by decide) (by decide) (Zr_up (Zr_mono (Zr_up (Zr_mono (Zr_up (Zr_mono (Zr_up (Zr_mono (Zr_up (Zr_mono (Zr_up (Zr_mono (Zr_up (Zr_mono (Zr_up (Zr_mono (Zr_up (Zr_mono (Zr_sI hzW (by decide)) (by decide : 202 ≤ 203)) (by decide)) (by decide : 203 ≤ 204)) (by decide)) (by decide : 204 ≤ 205)) (by decide)) (by decide : 205 ≤ 206)) (by decide)) (by decide : 206 ≤ 207)) (by decide)) (by decide : 207 ≤ 208)) (by decide)) (by decide : 208 ≤ 209)) (by decide)) (by decide : 209 ≤ 210)) (by decide)) (by decide : 210 ≤ 211)) (by decide)) (by decide) dX12_init_909 ?_
  refine g_putF hg hnm ff_X12_87 ly194 rfl (by decide) (by decide) rfl rfl dX12_init_911 ?_
  refine g_rload_n hg dX12_init_914 rfl 0 rfl ?_
  refine g_bipush hg dX12_init_915 kB_32 ?_
  refine g_newa (t := 0) (ty := .int) (N := 32) hg rfl (fun _ => rfl) (fun _ _ h => h) ly212 av_i wx1_129 (by decide) (by decide) (by decide) (Zr_up (Zr_mono (Zr_up (Zr_mono (Zr_up (Zr_mono (Zr_up (Zr_mono (Zr_up (Zr_mono (Zr_up (Zr_mono (Zr_up (Zr_mono (Zr_up (Zr_mono (Zr_up (Zr_mono (Zr_up (Zr_mono (Zr_sI hzW (by decide)) (by decide : 202 ≤ 203)) (by decide)) (by decide : 203 ≤ 204)) (by decide)) (by decide : 204 ≤ 205)) (by decide)) (by decide : 205 ≤ 206)) (by decide)) (by decide : 206 ≤ 207)) (by decide)) (by decide : 207 ≤ 208)) (by decide)) (by decide : 208 ≤ 209)) (by decide)) (by decide : 209 ≤ 210)) (by decide)) (by decide : 210 ≤ 211)) (by decide)) (by decide : 211 ≤ 212)) (by decide)) (by decide) dX12_init_917 ?_
  refine g_putF hg hnm ff_X12_90 ly194 rfl (by decide) (by decide) rfl rfl dX12_init_919 ?_
  refine g_rload_n hg dX12_init_922 rfl 0 rfl ?_
  refine g_sipush hg dX12_init_923 kS_192 ?_
  refine g_newa (t := 0) (ty := .int) (N := 192) hg rfl (fun _ => rfl) (fun _ _ h => h) ly213 av_i wx1_129 (by decide) (by decide) (by decide) (Zr_up (Zr_mono (Zr_up (Zr_mono (Zr_up (Zr_mono (Zr_up (Zr_mono (Zr_up (Zr_mono (Zr_up (Zr_mono (Zr_up (Zr_mono (Zr_up (Zr_mono (Zr_up (Zr_mono (Zr_up (Zr_mono (Zr_up (Zr_mono (Zr_sI hzW (by decide)) (by decide : 202 ≤ 203)) (by decide)) (by decide : 203 ≤ 204)) (by decide)) (by decide : 204 ≤ 205)) (by decide)) (by decide : 205 ≤ 206)) (by decide)) (by decide : 206 ≤ 207)) (by decide)) (by decide : 207 ≤ 208)) (by decide)) (by decide : 208 ≤ 209)) (by decide)) (by decide : 209 ≤ 210)) (by decide)) (by decide : 210 ≤ 211)) (by decide)) (by decide : 211 ≤ 212)) (by decide)) (by decide : 212 ≤ 213)) (by decide)) (by decide) dX12_init_926 ?_
  refine g_putF hg hnm ff_X12_93 ly194 rfl (by decide) (by decide) rfl rfl dX12_init_928 ?_
  refine g_rload_n hg dX12_init_931 rfl 0 rfl ?_
  refine g_sipush hg dX12_init_932 kS_192 ?_
  refine g_newa (t := 0) (ty := .int) (N := 192) hg rfl (fun _ => rfl) (fun _ _ h => h) ly214 av_i wx1_129 (by decide) (by decide) (by decide) (Zr_up (Zr_mono (Zr_up (Zr_mono (Zr_up (Zr_mono (Zr_up (Zr_mono (Zr_up (Zr_mono (Zr_up (Zr_mono (Zr_up (Zr_mono (Zr_up (Zr_mono (Zr_up (Zr_mono (Zr_up (Zr_mono (Zr_up (Zr_mono (Zr_up (Zr_mono (Zr_sI hzW (by decide)) (by decide : 202 ≤ 203)) (by decide)) (by decide : 203 ≤ 204)) (by decide)) (by decide : 204 ≤ 205)) (by decide)) (by decide : 205 ≤ 206)) (by decide)) (by decide : 206 ≤ 207)) (by decide)) (by decide : 207 ≤ 208)) (by decide)) (by decide : 208 ≤ 209)) (by decide)) (by decide : 209 ≤ 210)) (by decide)) (by decide : 210 ≤ 211)) (by decide)) (by decide : 211 ≤ 212)) (by decide)) (by decide : 212 ≤ 213)) (by decide)) (by decide : 213 ≤ 214)) (by decide)) (by decide) dX12_init_935 ?_
  refine g_putF hg hnm ff_X12_96 ly194 rfl (by decide) (by decide) rfl rfl dX12_init_937 ?_
  refine g_rload_n hg dX12_init_940 rfl 0 rfl ?_
  refine g_sipush hg dX12_init_941 kS_192 ?_
  refine g_newa (t := 0) (ty := .int) (N := 192) hg rfl (fun _ => rfl) (fun _ _ h => h) ly215 av_i wx1_129 (by decide) (by decide) (by decide) (Zr_up (Zr_mono (Zr_up (Zr_mono (Zr_up (Zr_mono (Zr_up (Zr_mono (Zr_up (Zr_mono (Zr_up (Zr_mono (Zr_up (Zr_mono (Zr_up (Zr_mono (Zr_up (Zr_mono (Zr_up (Zr_mono (Zr_up (Zr_mono (Zr_up (Zr_mono (Zr_up (Zr_mono (Zr_sI hzW (by decide)) (by decide : 202 ≤ 203)) (by decide)) (by decide : 203 ≤ 204)) (by decide)) (by decide : 204 ≤ 205)) (by decide)) (by decide : 205 ≤ 206)) (by decide)) (by decide : 206 ≤ 207)) (by decide)) (by decide : 207 ≤ 208)) (by decide)) (by decide : 208 ≤ 209)) (by decide)) (by decide : 209 ≤ 210)) (by decide)) (by decide : 210 ≤ 211)) (by decide)) (by decide : 211 ≤ 212)) (by decide)) (by decide : 212 ≤ 213)) (by decide)) (by decide : 213 ≤ 214)) (by decide)) (by decide : 214 ≤ 215)) (by decide)) (by decide) dX12_init_944 ?_
  refine g_putF hg hnm ff_X12_99 ly194 rfl (by decide) (by decide) rfl rfl dX12_init_946 ?_
  refine g_rload_n hg dX12_init_949 rfl 0 rfl ?_
  refine g_sipush hg dX12_init_950 kS_192 ?_
  refine g_newa (t := 0) (ty := .int) (N := 192) hg rfl (fun _ => rfl) (fun _ _ h => h) ly216 av_i wx1_129 (by decide) (by decide) (by decide) (Zr_up (Zr_mono (Zr_up (Zr_mono (Zr_up (Zr_mono (Zr_up (Zr_mono (Zr_up (Zr_mono (Zr_up (Zr_mono (Zr_up (Zr_mono (Zr_up (Zr_mono (Zr_up (Zr_mono (Zr_up (Zr_mono (Zr_up (Zr_mono (Zr_up (Zr_mono (Zr_up (Zr_mono (Zr_up (Zr_mono (Zr_sI hzW (by decide)) (by decide : 202 ≤ 203)) (by decide)) (by decide : 203 ≤ 204)) (by decide)) (by decide : 204 ≤ 205)) (by decide)) (by decide : 205 ≤ 206)) (by decide)) (by decide : 206 ≤ 207)) (by decide)) (by decide : 207 ≤ 208)) (by decide)) (by decide : 208 ≤ 209)) (by decide)) (by decide : 209 ≤ 210)) (by decide)) (by decide : 210 ≤ 211)) (by decide)) (by decide : 211 ≤ 212)) (by decide)) (by decide : 212 ≤ 213)) (by decide)) (by decide : 213 ≤ 214)) (by decide)) (by decide : 214 ≤ 215)) (by decide)) (by decide : 215 ≤ 216)) (by decide)) (by decide) dX12_init_953 ?_
  refine g_putF hg hnm ff_X12_102 ly194 rfl (by decide) (by decide) rfl rfl dX12_init_955 ?_
  refine g_rload_n hg dX12_init_958 rfl 0 rfl ?_
  refine g_sipush hg dX12_init_959 kS_192 ?_
  refine g_newa (t := 0) (ty := .int) (N := 192) hg rfl (fun _ => rfl) (fun _ _ h => h) ly217 av_i wx1_129 (by decide) (by decide) (by decide) (Zr_up (Zr_mono (Zr_up (Zr_mono (Zr_up (Zr_mono (Zr_up (Zr_mono (Zr_up (Zr_mono (Zr_up (Zr_mono (Zr_up (Zr_mono (Zr_up (Zr_mono (Zr_up (Zr_mono (Zr_up (Zr_mono (Zr_up (Zr_mono (Zr_up (Zr_mono (Zr_up (Zr_mono (Zr_up (Zr_mono (Zr_up (Zr_mono (Zr_sI hzW (by decide)) (by decide : 202 ≤ 203)) (by decide)) (by decide : 203 ≤ 204)) (by decide)) (by decide : 204 ≤ 205)) (by decide)) (by decide : 205 ≤ 206)) (by decide)) (by decide : 206 ≤ 207)) (by decide)) (by decide : 207 ≤ 208)) (by decide)) (by decide : 208 ≤ 209)) (by decide)) (by decide : 209 ≤ 210)) (by decide)) (by decide : 210 ≤ 211)) (by decide)) (by decide : 211 ≤ 212)) (by decide)) (by decide : 212 ≤ 213)) (by decide)) (by decide : 213 ≤ 214)) (by decide)) (by decide : 214 ≤ 215)) (by decide)) (by decide : 215 ≤ 216)) (by decide)) (by decide : 216 ≤ 217)) (by decide)) (by decide) dX12_init_962 ?_
  refine g_putF hg hnm ff_X12_105 ly194 rfl (by decide) (by decide) rfl rfl dX12_init_964 ?_
  refine g_rload_n hg dX12_init_967 rfl 0 rfl ?_
  refine g_sipush hg dX12_init_968 kS_192 ?_
  refine g_newa (t := 0) (ty := .int) (N := 192) hg rfl (fun _ => rfl) (fun _ _ h => h) ly218 av_i wx1_129 (by decide) (by decide) (by decide) (Zr_up (Zr_mono (Zr_up (Zr_mono (Zr_up (Zr_mono (Zr_up (Zr_mono (Zr_up (Zr_mono (Zr_up (Zr_mono (Zr_up (Zr_mono (Zr_up (Zr_mono (Zr_up (Zr_mono (Zr_up (Zr_mono (Zr_up (Zr_mono (Zr_up (Zr_mono (Zr_up (Zr_mono (Zr_up (Zr_mono (Zr_up (Zr_mono (Zr_up (Zr_mono (Zr_sI hzW (by decide)) (by decide : 202 ≤ 203)) (by decide)) (by decide : 203 ≤ 204)) (by decide)) (by decide : 204 ≤ 205)) (by decide)) (by decide : 205 ≤ 206)) (by decide)) (by decide : 206 ≤ 207)) (by decide)) (by decide : 207 ≤ 208)) (by decide)) (by decide : 208 ≤ 209)) (by decide)) (by decide : 209 ≤ 210)) (by decide)) (by decide : 210 ≤ 211)) (by decide)) (by decide : 211 ≤ 212)) (by decide)) (by decide : 212 ≤ 213)) (by decide)) (by decide : 213 ≤ 214)) (by decide)) (by decide : 214 ≤ 215)) (by decide)) (by decide : 215 ≤ 216)) (by decide)) (by decide : 216 ≤ 217)) (by decide)) (by decide : 217 ≤ 218)) (by decide)) (by decide) dX12_init_971 ?_
  refine g_putF hg hnm ff_X12_108 ly194 rfl (by decide) (by decide) rfl rfl dX12_init_973 ?_
  refine g_rload_n hg dX12_init_976 rfl 0 rfl ?_
  refine g_bipush hg dX12_init_977 kB_120 ?_
  refine g_newa (t := 0) (ty := .int) (N := 120) hg rfl (fun _ => rfl) (fun _ _ h => h) ly219 av_i wx1_129 (by decide) (by decide) (by decide) (Zr_up (Zr_mono (Zr_up (Zr_mono (Zr_up (Zr_mono (Zr_up (Zr_mono (Zr_up (Zr_mono (Zr_up (Zr_mono (Zr_up (Zr_mono (Zr_up (Zr_mono (Zr_up (Zr_mono (Zr_up (Zr_mono (Zr_up (Zr_mono (Zr_up (Zr_mono (Zr_up (Zr_mono (Zr_up (Zr_mono (Zr_up (Zr_mono (Zr_up (Zr_mono (Zr_up (Zr_mono (Zr_sI hzW (by decide)) (by decide : 202 ≤ 203)) (by decide)) (by decide : 203 ≤ 204)) (by decide)) (by decide : 204 ≤ 205)) (by decide)) (by decide : 205 ≤ 206)) (by decide)) (by decide : 206 ≤ 207)) (by decide)) (by decide : 207 ≤ 208)) (by decide)) (by decide : 208 ≤ 209)) (by decide)) (by decide : 209 ≤ 210)) (by decide)) (by decide : 210 ≤ 211)) (by decide)) (by decide : 211 ≤ 212)) (by decide)) (by decide : 212 ≤ 213)) (by decide)) (by decide : 213 ≤ 214)) (by decide)) (by decide : 214 ≤ 215)) (by decide)) (by decide : 215 ≤ 216)) (by decide)) (by decide : 216 ≤ 217)) (by decide)) (by decide : 217 ≤ 218)) (by decide)) (by decide : 218 ≤ 219)) (by decide)) (by decide) dX12_init_979 ?_
  refine g_putF hg hnm ff_X12_111 ly194 rfl (by decide) (by decide) rfl rfl dX12_init_981 ?_
  refine g_rload_n hg dX12_init_984 rfl 0 rfl ?_
  refine g_bipush hg dX12_init_985 kB_120 ?_
  refine g_newa (t := 0) (ty := .int) (N := 120) hg rfl (fun _ => rfl) (fun _ _ h => h) ly220 av_i wx1_129 (by decide) (by decide) (by decide) (Zr_up (Zr_mono (Zr_up (Zr_mono (Zr_up (Zr_mono (Zr_up (Zr_mono (Zr_up (Zr_mono (Zr_up (Zr_mono (Zr_up (Zr_mono (Zr_up (Zr_mono (Zr_up (Zr_mono (Zr_up (Zr_mono (Zr_up (Zr_mono (Zr_up (Zr_mono (Zr_up (Zr_mono (Zr_up (Zr_mono (Zr_up (Zr_mono (Zr_up (Zr_mono (Zr_up (Zr_mono (Zr_up (Zr_mono (Zr_sI hzW (by decide)) (by decide : 202 ≤ 203)) (by decide)) (by decide : 203 ≤ 204)) (by decide)) (by decide : 204 ≤ 205)) (by decide)) (by decide : 205 ≤ 206)) (by decide)) (by decide : 206 ≤ 207)) (by decide)) (by decide : 207 ≤ 208)) (by decide)) (by decide : 208 ≤ 209)) (by decide)) (by decide : 209 ≤ 210)) (by decide)) (by decide : 210 ≤ 211)) (by decide)) (by decide : 211 ≤ 212)) (by decide)) (by decide : 212 ≤ 213)) (by decide)) (by decide : 213 ≤ 214)) (by decide)) (by decide : 214 ≤ 215)) (by decide)) (by decide : 215 ≤ 216)) (by decide)) (by decide : 216 ≤ 217)) (by decide)) (by decide : 217 ≤ 218)) (by decide)) (by decide : 218 ≤ 219)) (by decide)) (by decide : 219 ≤ 220)) (by decide)) (by decide) dX12_init_987 ?_
  refine g_putF hg hnm ff_X12_114 ly194 rfl (by decide) (by decide) rfl rfl dX12_init_989 ?_
  refine g_rload_n hg dX12_init_992 rfl 0 rfl ?_
  refine g_bipush hg dX12_init_993 kB_120 ?_
  refine g_newa (t := 0) (ty := .int) (N := 120) hg rfl (fun _ => rfl) (fun _ _ h => h) ly221 av_i wx1_129 (by decide) (by decide) (by decide) (Zr_up (Zr_mono (Zr_up (Zr_mono (Zr_up (Zr_mono (Zr_up (Zr_mono (Zr_up (Zr_mono (Zr_up (Zr_mono (Zr_up (Zr_mono (Zr_up (Zr_mono (Zr_up (Zr_mono (Zr_up (Zr_mono (Zr_up (Zr_mono (Zr_up (Zr_mono (Zr_up (Zr_mono (Zr_up (Zr_mono (Zr_up (Zr_mono (Zr_up (Zr_mono (Zr_up (Zr_mono (Zr_up (Zr_mono (Zr_up (Zr_mono (Zr_sI hzW (by decide)) (by decide : 202 ≤ 203)) (by decide)) (by decide : 203 ≤ 204)) (by decide)) (by decide : 204 ≤ 205)) (by decide)) (by decide : 205 ≤ 206)) (by decide)) (by decide : 206 ≤ 207)) (by decide)) (by decide : 207 ≤ 208)) (by decide)) (by decide : 208 ≤ 209)) (by decide)) (by decide : 209 ≤ 210)) (by decide)) (by decide : 210 ≤ 211)) (by decide)) (by decide : 211 ≤ 212)) (by decide)) (by decide : 212 ≤ 213)) (by decide)) (by decide : 213 ≤ 214)) (by decide)) (by decide : 214 ≤ 215)) (by decide)) (by decide : 215 ≤ 216)) (by decide)) (by decide : 216 ≤ 217)) (by decide)) (by decide : 217 ≤ 218)) (by decide)) (by decide : 218 ≤ 219)) (by decide)) (by decide : 219 ≤ 220)) (by decide)) (by decide : 220 ≤ 221)) (by decide)) (by decide) dX12_init_995 ?_
  refine g_putF hg hnm ff_X12_117 ly194 rfl (by decide) (by decide) rfl rfl dX12_init_997 ?_
  refine g_rload_n hg dX12_init_1000 rfl 0 rfl ?_
  refine g_bipush hg dX12_init_1001 kB_96 ?_
  refine g_newa (t := 0) (ty := .int) (N := 96) hg rfl (fun _ => rfl) (fun _ _ h => h) ly222 av_i wx1_129 (by decide) (by decide) (by decide) (Zr_up (Zr_mono (Zr_up (Zr_mono (Zr_up (Zr_mono (Zr_up (Zr_mono (Zr_up (Zr_mono (Zr_up (Zr_mono (Zr_up (Zr_mono (Zr_up (Zr_mono (Zr_up (Zr_mono (Zr_up (Zr_mono (Zr_up (Zr_mono (Zr_up (Zr_mono (Zr_up (Zr_mono (Zr_up (Zr_mono (Zr_up (Zr_mono (Zr_up (Zr_mono (Zr_up (Zr_mono (Zr_up (Zr_mono (Zr_up (Zr_mono (Zr_up (Zr_mono (Zr_sI hzW (by decide)) (by decide : 202 ≤ 203)) (by decide)) (by decide : 203 ≤ 204)) (by decide)) (by decide : 204 ≤ 205)) (by decide)) (by decide : 205 ≤ 206)) (by decide)) (by decide : 206 ≤ 207)) (by decide)) (by decide : 207 ≤ 208)) (by decide)) (by decide : 208 ≤ 209)) (by decide)) (by decide : 209 ≤ 210)) (by decide)) (by decide : 210 ≤ 211)) (by decide)) (by decide : 211 ≤ 212)) (by decide)) (by decide : 212 ≤ 213)) (by decide)) (by decide : 213 ≤ 214)) (by decide)) (by decide : 214 ≤ 215)) (by decide)) (by decide : 215 ≤ 216)) (by decide)) (by decide : 216 ≤ 217)) (by decide)) (by decide : 217 ≤ 218)) (by decide)) (by decide : 218 ≤ 219)) (by decide)) (by decide : 219 ≤ 220)) (by decide)) (by decide : 220 ≤ 221)) (by decide)) (by decide : 221 ≤ 222)) (by decide)) (by decide) dX12_init_1003 ?_
  refine g_putF hg hnm ff_X12_120 ly194 rfl (by decide) (by decide) rfl rfl dX12_init_1005 ?_
  refine g_rload_n hg dX12_init_1008 rfl 0 rfl ?_
  refine g_bipush hg dX12_init_1009 kB_96 ?_
  refine g_newa (t := 1) (ty := .boolean) (N := 96) hg rfl (fun _ => rfl) (fun _ _ h => h) ly223 av_z wx2_98 (by decide) (by decide) (by decide) (Zr_up (Zr_mono (Zr_up (Zr_mono (Zr_up (Zr_mono (Zr_up (Zr_mono (Zr_up (Zr_mono (Zr_up (Zr_mono (Zr_up (Zr_mono (Zr_up (Zr_mono (Zr_up (Zr_mono (Zr_up (Zr_mono (Zr_up (Zr_mono (Zr_up (Zr_mono (Zr_up (Zr_mono (Zr_up (Zr_mono (Zr_up (Zr_mono (Zr_up (Zr_mono (Zr_up (Zr_mono (Zr_up (Zr_mono (Zr_up (Zr_mono (Zr_up (Zr_mono (Zr_up (Zr_mono (Zr_sI hzW (by decide)) (by decide : 202 ≤ 203)) (by decide)) (by decide : 203 ≤ 204)) (by decide)) (by decide : 204 ≤ 205)) (by decide)) (by decide : 205 ≤ 206)) (by decide)) (by decide : 206 ≤ 207)) (by decide)) (by decide : 207 ≤ 208)) (by decide)) (by decide : 208 ≤ 209)) (by decide)) (by decide : 209 ≤ 210)) (by decide)) (by decide : 210 ≤ 211)) (by decide)) (by decide : 211 ≤ 212)) (by decide)) (by decide : 212 ≤ 213)) (by decide)) (by decide : 213 ≤ 214)) (by decide)) (by decide : 214 ≤ 215)) (by decide)) (by decide : 215 ≤ 216)) (by decide)) (by decide : 216 ≤ 217)) (by decide)) (by decide : 217 ≤ 218)) (by decide)) (by decide : 218 ≤ 219)) (by decide)) (by decide : 219 ≤ 220)) (by decide)) (by decide : 220 ≤ 221)) (by decide)) (by decide : 221 ≤ 222)) (by decide)) (by decide : 222 ≤ 223)) (by decide)) (by decide) dX12_init_1011 ?_
  refine g_putF hg hnm ff_X12_123 ly194 rfl (by decide) (by decide) rfl rfl dX12_init_1013 ?_
  refine g_rload_n hg dX12_init_1016 rfl 0 rfl ?_
  refine g_sipush hg dX12_init_1017 kS_192 ?_
  refine g_newa (t := 0) (ty := .int) (N := 192) hg rfl (fun _ => rfl) (fun _ _ h => h) ly224 av_i wx1_129 (by decide) (by decide) (by decide) (Zr_up (Zr_mono (Zr_up (Zr_mono (Zr_up (Zr_mono (Zr_up (Zr_mono (Zr_up (Zr_mono (Zr_up (Zr_mono (Zr_up (Zr_mono (Zr_up (Zr_mono (Zr_up (Zr_mono (Zr_up (Zr_mono (Zr_up (Zr_mono (Zr_up (Zr_mono (Zr_up (Zr_mono (Zr_up (Zr_mono (Zr_up (Zr_mono (Zr_up (Zr_mono (Zr_up (Zr_mono (Zr_up (Zr_mono (Zr_up (Zr_mono (Zr_up (Zr_mono (Zr_up (Zr_mono (Zr_up (Zr_mono (Zr_sI hzW (by decide)) (by decide : 202 ≤ 203)) (by decide)) (by decide : 203 ≤ 204)) (by decide)) (by decide : 204 ≤ 205)) (by decide)) (by decide : 205 ≤ 206)) (by decide)) (by decide : 206 ≤ 207)) (by decide)) (by decide : 207 ≤ 208)) (by decide)) (by decide : 208 ≤ 209)) (by decide)) (by decide : 209 ≤ 210)) (by decide)) (by decide : 210 ≤ 211)) (by decide)) (by decide : 211 ≤ 212)) (by decide)) (by decide : 212 ≤ 213)) (by decide)) (by decide : 213 ≤ 214)) (by decide)) (by decide : 214 ≤ 215)) (by decide)) (by decide : 215 ≤ 216)) (by decide)) (by decide : 216 ≤ 217)) (by decide)) (by decide : 217 ≤ 218)) (by decide)) (by decide : 218 ≤ 219)) (by decide)) (by decide : 219 ≤ 220)) (by decide)) (by decide : 220 ≤ 221)) (by decide)) (by decide : 221 ≤ 222)) (by decide)) (by decide : 222 ≤ 223)) (by decide)) (by decide : 223 ≤ 224)) (by decide)) (by decide) dX12_init_1020 ?_
  refine g_putF hg hnm ff_X12_126 ly194 rfl (by decide) (by decide) rfl rfl dX12_init_1022 ?_
  refine g_rload_n hg dX12_init_1025 rfl 0 rfl ?_
  refine g_bipush hg dX12_init_1026 kB_8 ?_
  refine g_newa (t := 0) (ty := .int) (N := 8) hg rfl (fun _ => rfl) (fun _ _ h => h) ly225 av_i wx1_129 (by decide) (by decide) (by decide) (Zr_up (Zr_mono (Zr_up (Zr_mono (Zr_up (Zr_mono (Zr_up (Zr_mono (Zr_up (Zr_mono (Zr_up (Zr_mono (Zr_up (Zr_mono (Zr_up (Zr_mono (Zr_up (Zr_mono (Zr_up (Zr_mono (Zr_up (Zr_mono (Zr_up (Zr_mono (Zr_up (Zr_mono (Zr_up (Zr_mono (Zr_up (Zr_mono (Zr_up (Zr_mono (Zr_up (Zr_mono (Zr_up (Zr_mono (Zr_up (Zr_mono (Zr_up (Zr_mono (Zr_up (Zr_mono (Zr_up (Zr_mono (Zr_up (Zr_mono (Zr_sI hzW (by decide)) (by decide : 202 ≤ 203)) (by decide)) (by decide : 203 ≤ 204)) (by decide)) (by decide : 204 ≤ 205)) (by decide)) (by decide : 205 ≤ 206)) (by decide)) (by decide : 206 ≤ 207)) (by decide)) (by decide : 207 ≤ 208)) (by decide)) (by decide : 208 ≤ 209)) (by decide)) (by decide : 209 ≤ 210)) (by decide)) (by decide : 210 ≤ 211)) (by decide)) (by decide : 211 ≤ 212)) (by decide)) (by decide : 212 ≤ 213)) (by decide)) (by decide : 213 ≤ 214)) (by decide)) (by decide : 214 ≤ 215)) (by decide)) (by decide : 215 ≤ 216)) (by decide)) (by decide : 216 ≤ 217)) (by decide)) (by decide : 217 ≤ 218)) (by decide)) (by decide : 218 ≤ 219)) (by decide)) (by decide : 219 ≤ 220)) (by decide)) (by decide : 220 ≤ 221)) (by decide)) (by decide : 221 ≤ 222)) (by decide)) (by decide : 222 ≤ 223)) (by decide)) (by decide : 223 ≤ 224)) (by decide)) (by decide : 224 ≤ 225)) (by decide)) (by decide) dX12_init_1028 ?_
  refine g_putF hg hnm ff_X12_129 ly194 rfl (by decide) (by decide) rfl rfl dX12_init_1030 ?_
  refine g_rload_n hg dX12_init_1033 rfl 0 rfl ?_
  refine g_bipush hg dX12_init_1034 kB_8 ?_
  refine g_newa (t := 0) (ty := .int) (N := 8) hg rfl (fun _ => rfl) (fun _ _ h => h) ly226 av_i wx1_129 (by decide) (by decide) (by decide) (Zr_up (Zr_mono (Zr_up (Zr_mono (Zr_up (Zr_mono (Zr_up (Zr_mono (Zr_up (Zr_mono (Zr_up (Zr_mono (Zr_up (Zr_mono (Zr_up (Zr_mono (Zr_up (Zr_mono (Zr_up (Zr_mono (Zr_up (Zr_mono (Zr_up (Zr_mono (Zr_up (Zr_mono (Zr_up (Zr_mono (Zr_up (Zr_mono (Zr_up (Zr_mono (Zr_up (Zr_mono (Zr_up (Zr_mono (Zr_up (Zr_mono (Zr_up (Zr_mono (Zr_up (Zr_mono (Zr_up (Zr_mono (Zr_up (Zr_mono (Zr_up (Zr_mono (Zr_sI hzW (by decide)) (by decide : 202 ≤ 203)) (by decide)) (by decide : 203 ≤ 204)) (by decide)) (by decide : 204 ≤ 205)) (by decide)) (by decide : 205 ≤ 206)) (by decide)) (by decide : 206 ≤ 207)) (by decide)) (by decide : 207 ≤ 208)) (by decide)) (by decide : 208 ≤ 209)) (by decide)) (by decide : 209 ≤ 210)) (by decide)) (by decide : 210 ≤ 211)) (by decide)) (by decide : 211 ≤ 212)) (by decide)) (by decide : 212 ≤ 213)) (by decide)) (by decide : 213 ≤ 214)) (by decide)) (by decide : 214 ≤ 215)) (by decide)) (by decide : 215 ≤ 216)) (by decide)) (by decide : 216 ≤ 217)) (by decide)) (by decide : 217 ≤ 218)) (by decide)) (by decide : 218 ≤ 219)) (by decide)) (by decide : 219 ≤ 220)) (by decide)) (by decide : 220 ≤ 221)) (by decide)) (by decide : 221 ≤ 222)) (by decide)) (by decide : 222 ≤ 223)) (by decide)) (by decide : 223 ≤ 224)) (by decide)) (by decide : 224 ≤ 225)) (by decide)) (by decide : 225 ≤ 226)) (by decide)) (by decide) dX12_init_1036 ?_
  refine g_putF hg hnm ff_X12_132 ly194 rfl (by decide) (by decide) rfl rfl dX12_init_1038 ?_
  refine g_rload_n hg dX12_init_1041 rfl 0 rfl ?_
  refine g_bipush hg dX12_init_1042 kB_60 ?_
  refine g_newa (t := 0) (ty := .int) (N := 60) hg rfl (fun _ => rfl) (fun _ _ h => h) ly227 av_i wx1_129 (by decide) (by decide) (by decide) (Zr_up (Zr_mono (Zr_up (Zr_mono (Zr_up (Zr_mono (Zr_up (Zr_mono (Zr_up (Zr_mono (Zr_up (Zr_mono (Zr_up (Zr_mono (Zr_up (Zr_mono (Zr_up (Zr_mono (Zr_up (Zr_mono (Zr_up (Zr_mono (Zr_up (Zr_mono (Zr_up (Zr_mono (Zr_up (Zr_mono (Zr_up (Zr_mono (Zr_up (Zr_mono (Zr_up (Zr_mono (Zr_up (Zr_mono (Zr_up (Zr_mono (Zr_up (Zr_mono (Zr_up (Zr_mono (Zr_up (Zr_mono (Zr_up (Zr_mono (Zr_up (Zr_mono (Zr_up (Zr_mono (Zr_sI hzW (by decide)) (by decide : 202 ≤ 203)) (by decide)) (by decide : 203 ≤ 204)) (by decide)) (by decide : 204 ≤ 205)) (by decide)) (by decide : 205 ≤ 206)) (by decide)) (by decide : 206 ≤ 207)) (by decide)) (by decide : 207 ≤ 208)) (by decide)) (by decide : 208 ≤ 209)) (by decide)) (by decide : 209 ≤ 210)) (by decide)) (by decide : 210 ≤ 211)) (by decide)) (by decide : 211 ≤ 212)) (by decide)) (by decide : 212 ≤ 213)) (by decide)) (by decide : 213 ≤ 214)) (by decide)) (by decide : 214 ≤ 215)) (by decide)) (by decide : 215 ≤ 216)) (by decide)) (by decide : 216 ≤ 217)) (by decide)) (by decide : 217 ≤ 218)) (by decide)) (by decide : 218 ≤ 219)) (by decide)) (by decide : 219 ≤ 220)) (by decide)) (by decide : 220 ≤ 221)) (by decide)) (by decide : 221 ≤ 222)) (by decide)) (by decide : 222 ≤ 223)) (by decide)) (by decide : 223 ≤ 224)) (by decide)) (by decide : 224 ≤ 225)) (by decide)) (by decide : 225 ≤ 226)) (by decide)) (by decide : 226 ≤ 227)) (by decide)) (by decide) dX12_init_1044 ?_
  refine g_putF hg hnm ff_X12_135 ly194 rfl (by decide) (by decide) rfl rfl dX12_init_1046 ?_
  refine g_rload_n hg dX12_init_1049 rfl 0 rfl ?_
  refine g_bipush hg dX12_init_1050 kB_8 ?_
  refine g_newa (t := 0) (ty := .int) (N := 8) hg rfl (fun _ => rfl) (fun _ _ h => h) ly228 av_i wx1_129 (by decide) (by decide) (by decide) (Zr_up (Zr_mono (Zr_up (Zr_mono (Zr_up (Zr_mono (Zr_up (Zr_mono (Zr_up (Zr_mono (Zr_up (Zr_mono (Zr_up (Zr_mono (Zr_up (Zr_mono (Zr_up (Zr_mono (Zr_up (Zr_mono (Zr_up (Zr_mono (Zr_up (Zr_mono (Zr_up (Zr_mono (Zr_up (Zr_mono (Zr_up (Zr_mono (Zr_up (Zr_mono (Zr_up (Zr_mono (Zr_up (Zr_mono (Zr_up (Zr_mono (Zr_up (Zr_mono (Zr_up (Zr_mono (Zr_up (Zr_mono (Zr_up (Zr_mono (Zr_up (Zr_mono (Zr_up (Zr_mono (Zr_up (Zr_mono (Zr_sI hzW (by decide)) (by decide : 202 ≤ 203)) (by decide)) (by decide : 203 ≤ 204)) (by decide)) (by decide : 204 ≤ 205)) (by decide)) (by decide : 205 ≤ 206)) (by decide)) (by decide : 206 ≤ 207)) (by decide)) (by decide : 207 ≤ 208)) (by decide)) (by decide : 208 ≤ 209)) (by decide)) (by decide : 209 ≤ 210)) (by decide)) (by decide : 210 ≤ 211)) (by decide)) (by decide : 211 ≤ 212)) (by decide)) (by decide : 212 ≤ 213)) (by decide)) (by decide : 213 ≤ 214)) (by decide)) (by decide : 214 ≤ 215)) (by decide)) (by decide : 215 ≤ 216)) (by decide)) (by decide : 216 ≤ 217)) (by decide)) (by decide : 217 ≤ 218)) (by decide)) (by decide : 218 ≤ 219)) (by decide)) (by decide : 219 ≤ 220)) (by decide)) (by decide : 220 ≤ 221)) (by decide)) (by decide : 221 ≤ 222)) (by decide)) (by decide : 222 ≤ 223)) (by decide)) (by decide : 223 ≤ 224)) (by decide)) (by decide : 224 ≤ 225)) (by decide)) (by decide : 225 ≤ 226)) (by decide)) (by decide : 226 ≤ 227)) (by decide)) (by decide : 227 ≤ 228)) (by decide)) (by decide) dX12_init_1052 ?_
  refine g_putF hg hnm ff_X12_138 ly194 rfl (by decide) (by decide) rfl rfl dX12_init_1054 ?_
  refine g_rload_n hg dX12_init_1057 rfl 0 rfl ?_
  refine g_bipush hg dX12_init_1058 kB_72 ?_
  refine g_newa (t := 0) (ty := .int) (N := 72) hg rfl (fun _ => rfl) (fun _ _ h => h) ly229 av_i wx1_129 (by decide) (by decide) (by decide) (Zr_up (Zr_mono (Zr_up (Zr_mono (Zr_up (Zr_mono (Zr_up (Zr_mono (Zr_up (Zr_mono (Zr_up (Zr_mono (Zr_up (Zr_mono (Zr_up (Zr_mono (Zr_up (Zr_mono (Zr_up (Zr_mono (Zr_up (Zr_mono (Zr_up (Zr_mono (Zr_up (Zr_mono (Zr_up (Zr_mono (Zr_up (Zr_mono (Zr_up (Zr_mono (Zr_up (Zr_mono (Zr_up (Zr_mono (Zr_up (Zr_mono (Zr_up (Zr_mono (Zr_up (Zr_mono (Zr_up (Zr_mono (Zr_up (Zr_mono (Zr_up (Zr_mono (Zr_up (Zr_mono (Zr_up (Zr_mono (Zr_up (Zr_mono (Zr_sI hzW (by decide)) (by decide : 202 ≤ 203)) (by decide)) (by decide : 203 ≤ 204)) (by decide)) (by decide : 204 ≤ 205)) (by decide)) (by decide : 205 ≤ 206)) (by decide)) (by decide : 206 ≤ 207)) (by decide)) (by decide : 207 ≤ 208)) (by decide)) (by decide : 208 ≤ 209)) (by decide)) (by decide : 209 ≤ 210)) (by decide)) (by decide : 210 ≤ 211)) (by decide)) (by decide : 211 ≤ 212)) (by decide)) (by decide : 212 ≤ 213)) (by decide)) (by decide : 213 ≤ 214)) (by decide)) (by decide : 214 ≤ 215)) (by decide)) (by decide : 215 ≤ 216)) (by decide)) (by decide : 216 ≤ 217)) (by decide)) (by decide : 217 ≤ 218)) (by decide)) (by decide : 218 ≤ 219)) (by decide)) (by decide : 219 ≤ 220)) (by decide)) (by decide : 220 ≤ 221)) (by decide)) (by decide : 221 ≤ 222)) (by decide)) (by decide : 222 ≤ 223)) (by decide)) (by decide : 223 ≤ 224)) (by decide)) (by decide : 224 ≤ 225)) (by decide)) (by decide : 225 ≤ 226)) (by decide)) (by decide : 226 ≤ 227)) (by decide)) (by decide : 227 ≤ 228)) (by decide)) (by decide : 228 ≤ 229)) (by decide)) (by decide) dX12_init_1060 ?_
  refine g_putF hg hnm ff_X12_141 ly194 rfl (by decide) (by decide) rfl rfl dX12_init_1062 ?_
  refine g_rload_n hg dX12_init_1065 rfl 0 rfl ?_
  refine g_bipush hg dX12_init_1066 kB_64 ?_
  refine g_newa (t := 0) (ty := .int) (N := 64) hg rfl (fun _ => rfl) (fun _ _ h => h) ly230 av_i wx1_129 (by decide) (by decide) (by decide) (Zr_up (Zr_mono (Zr_up (Zr_mono (Zr_up (Zr_mono (Zr_up (Zr_mono (Zr_up (Zr_mono (Zr_up (Zr_mono (Zr_up (Zr_mono (Zr_up (Zr_mono (Zr_up (Zr_mono (Zr_up (Zr_mono (Zr_up (Zr_mono (Zr_up (Zr_mono (Zr_up (Zr_mono (Zr_up (Zr_mono (Zr_up (Zr_mono (Zr_up (Zr_mono (Zr_up (Zr_mono (Zr_up (Zr_mono (Zr_up (Zr_mono (Zr_up (Zr_mono (Zr_up (Zr_mono (Zr_up (Zr_mono (Zr_up (Zr_mono (Zr_up (Zr_mono (Zr_up (Zr_mono (Zr_up (Zr_mono (Zr_up (Zr_mono (Zr_up (Zr_mono (Zr_sI hzW (by decide)) (by decide : 202 ≤ 203)) (by decide)) (by decide : 203 ≤ 204)) (by decide)) (by decide : 204 ≤ 205)) (by decide)) (by decide : 205 ≤ 206)) (by decide)) (by decide : 206 ≤ 207)) (by decide)) (by decide : 207 ≤ 208)) (by decide)) (by decide : 208 ≤ 209)) (by decide)) (by decide : 209 ≤ 210)) (by decide)) (by decide : 210 ≤ 211)) (by decide)) (by decide : 211 ≤ 212)) (by decide)) (by decide : 212 ≤ 213)) (by decide)) (by decide : 213 ≤ 214)) (by decide)) (by decide : 214 ≤ 215)) (by decide)) (by decide : 215 ≤ 216)) (by decide)) (by decide : 216 ≤ 217)) (by decide)) (by decide : 217 ≤ 218)) (by decide)) (by decide : 218 ≤ 219)) (by decide)) (by decide : 219 ≤ 220)) (by decide)) (by decide : 220 ≤ 221)) (by decide)) (by decide : 221 ≤ 222)) (by decide)) (by decide : 222 ≤ 223)) (by decide)) (by decide : 223 ≤ 224)) (by decide)) (by decide : 224 ≤ 225)) (by decide)) (by decide : 225 ≤ 226)) (by decide)) (by decide : 226 ≤ 227)) (by decide)) (by decide : 227 ≤ 228)) (by decide)) (by decide : 228 ≤ 229)) (by decide)) (by decide : 229 ≤ 230)) (by decide)) (by decide) dX12_init_1068 ?_
  refine g_putF hg hnm ff_X12_144 ly194 rfl (by decide) (by decide) rfl rfl dX12_init_1070 ?_
  refine g_rload_n hg dX12_init_1073 rfl 0 rfl ?_
  refine g_bipush hg dX12_init_1074 kB_8 ?_
  refine g_newa (t := 0) (ty := .int) (N := 8) hg rfl (fun _ => rfl) (fun _ _ h => h) ly231 av_i wx1_129 (by decide) (by decide) (by decide) (Zr_up (Zr_mono (Zr_up (Zr_mono (Zr_up (Zr_mono (Zr_up (Zr_mono (Zr_up (Zr_mono (Zr_up (Zr_mono (Zr_up (Zr_mono (Zr_up (Zr_mono (Zr_up (Zr_mono (Zr_up (Zr_mono (Zr_up (Zr_mono (Zr_up (Zr_mono (Zr_up (Zr_mono (Zr_up (Zr_mono (Zr_up (Zr_mono (Zr_up (Zr_mono (Zr_up (Zr_mono (Zr_up (Zr_mono (Zr_up (Zr_mono (Zr_up (Zr_mono (Zr_up (Zr_mono (Zr_up (Zr_mono (Zr_up (Zr_mono (Zr_up (Zr_mono (Zr_up (Zr_mono (Zr_up (Zr_mono (Zr_up (Zr_mono (Zr_up (Zr_mono (Zr_up (Zr_mono (Zr_sI hzW (by decide)) (by decide : 202 ≤ 203)) (by decide)) (by decide : 203 ≤ 204)) (by decide)) (by decide : 204 ≤ 205)) (by decide)) (by decide : 205 ≤ 206)) (by decide)) (by decide : 206 ≤ 207)) (by decide)) (by decide : 207 ≤ 208)) (by decide)) (by decide : 208 ≤ 209)) (by decide)) (by decide : 209 ≤ 210)) (by decide)) (by decide : 210 ≤ 211)) (by decide)) (by decide : 211 ≤ 212)) (by decide)) (by decide : 212 ≤ 213)) (by decide)) (by decide : 213 ≤ 214)) (by decide)) (by decide : 214 ≤ 215)) (by decide)) (by decide : 215 ≤ 216)) (by decide)) (by decide : 216 ≤ 217)) (by decide)) (by decide : 217 ≤ 218)) (by decide)) (by decide : 218 ≤ 219)) (by decide)) (by decide : 219 ≤ 220)) (by decide)) (by decide : 220 ≤ 221)) (by decide)) (by decide : 221 ≤ 222)) (by decide)) (by decide : 222 ≤ 223)) (by decide)) (by decide : 223 ≤ 224)) (by decide)) (by decide : 224 ≤ 225)) (by decide)) (by decide : 225 ≤ 226)) (by decide)) (by decide : 226 ≤ 227)) (by decide)) (by decide : 227 ≤ 228)) (by decide)) (by decide : 228 ≤ 229)) (by decide)) (by decide : 229 ≤ 230)) (by decide)) (by decide : 230 ≤ 231)) (by decide)) (by decide) dX12_init_1076 ?_
  refine g_putF hg hnm ff_X12_147 ly194 rfl (by decide) (by decide) rfl rfl dX12_init_1078 ?_
  refine g_rload_n hg dX12_init_1081 rfl 0 rfl ?_
  refine g_bipush hg dX12_init_1082 kB_8 ?_
  refine g_newa (t := 0) (ty := .int) (N := 8) hg rfl (fun _ => rfl) (fun _ _ h => h) ly232 av_i wx1_129 (by decide) (by decide) (by decide) (Zr_up (Zr_mono (Zr_up (Zr_mono (Zr_up (Zr_mono (Zr_up (Zr_mono (Zr_up (Zr_mono (Zr_up (Zr_mono (Zr_up (Zr_mono (Zr_up (Zr_mono (Zr_up (Zr_mono (Zr_up (Zr_mono (Zr_up (Zr_mono (Zr_up (Zr_mono (Zr_up (Zr_mono (Zr_up (Zr_mono (Zr_up (Zr_mono (Zr_up (Zr_mono (Zr_up (Zr_mono (Zr_up (Zr_mono (Zr_up (Zr_mono (Zr_up (Zr_mono (Zr_up (Zr_mono (Zr_up (Zr_mono (Zr_up (Zr_mono (Zr_up (Zr_mono (Zr_up (Zr_mono (Zr_up (Zr_mono (Zr_up (Zr_mono (Zr_up (Zr_mono (Zr_up (Zr_mono (Zr_up (Zr_mono (Zr_sI hzW (by decide)) (by decide : 202 ≤ 203)) (by decide)) (by decide : 203 ≤ 204)) (by decide)) (by decide : 204 ≤ 205)) (by decide)) (by decide : 205 ≤ 206)) (by decide)) (by decide : 206 ≤ 207)) (by decide)) (by decide : 207 ≤ 208)) (by decide)) (by decide : 208 ≤ 209)) (by decide)) (by decide : 209 ≤ 210)) (by decide)) (by decide : 210 ≤ 211)) (by decide)) (by decide : 211 ≤ 212)) (by decide)) (by decide : 212 ≤ 213)) (by decide)) (by decide : 213 ≤ 214)) (by decide)) (by decide : 214 ≤ 215)) (by decide)) (by decide : 215 ≤ 216)) (by decide)) (by decide : 216 ≤ 217)) (by decide)) (by decide : 217 ≤ 218)) (by decide)) (by decide : 218 ≤ 219)) (by decide)) (by decide : 219 ≤ 220)) (by decide)) (by decide : 220 ≤ 221)) (by decide)) (by decide : 221 ≤ 222)) (by decide)) (by decide : 222 ≤ 223)) (by decide)) (by decide : 223 ≤ 224)) (by decide)) (by decide : 224 ≤ 225)) (by decide)) (by decide : 225 ≤ 226)) (by decide)) (by decide : 226 ≤ 227)) (by decide)) (by decide : 227 ≤ 228)) (by decide)) (by decide : 228 ≤ 229)) (by decide)) (by decide : 229 ≤ 230)) (by decide)) (by decide : 230 ≤ 231)) (by decide)) (by decide : 231 ≤ 232)) (by decide)) (by decide) dX12_init_1084 ?_
  refine g_putF hg hnm ff_X12_150 ly194 rfl (by decide) (by decide) rfl rfl dX12_init_1086 ?_
  refine g_rload_n hg dX12_init_1089 rfl 0 rfl ?_
  refine g_bipush hg dX12_init_1090 kB_64 ?_
  refine g_newa (t := 0) (ty := .int) (N := 64) hg rfl (fun _ => rfl) (fun _ _ h => h) ly233 av_i wx1_129 (by decide) (by decide) (by decide) (Zr_up (Zr_mono (Zr_up (Zr_mono (Zr_up (Zr_mono (Zr_up (Zr_mono (Zr_up (Zr_mono (Zr_up (Zr_mono (Zr_up (Zr_mono (Zr_up (Zr_mono (Zr_up (Zr_mono (Zr_up (Zr_mono (Zr_up (Zr_mono (Zr_up (Zr_mono (Zr_up (Zr_mono (Zr_up (Zr_mono (Zr_up (Zr_mono (Zr_up (Zr_mono (Zr_up (Zr_mono (Zr_up (Zr_mono (Zr_up (Zr_mono (Zr_up (Zr_mono (Zr_up (Zr_mono (Zr_up (Zr_mono (Zr_up (Zr_mono (Zr_up (Zr_mono (Zr_up (Zr_mono (Zr_up (Zr_mono (Zr_up (Zr_mono (Zr_up (Zr_mono (Zr_up (Zr_mono (Zr_up (Zr_mono (Zr_up (Zr_mono (Zr_sI hzW (by decide)) (by decide : 202 ≤ 203)) (by decide)) (by decide : 203 ≤ 204)) (by decide)) (by decide : 204 ≤ 205)) (by decide)) (by decide : 205 ≤ 206)) (by decide)) (by decide : 206 ≤ 207)) (by decide)) (by decide : 207 ≤ 208)) (by decide)) (by decide : 208 ≤ 209)) (by decide)) (by decide : 209 ≤ 210)) (by decide)) (by decide : 210 ≤ 211)) (by decide)) (by decide : 211 ≤ 212)) (by decide)) (by decide : 212 ≤ 213)) (by decide)) (by decide : 213 ≤ 214)) (by decide)) (by decide : 214 ≤ 215)) (by decide)) (by decide : 215 ≤ 216)) (by decide)) (by decide : 216 ≤ 217)) (by decide)) (by decide : 217 ≤ 218)) (by decide)) (by decide : 218 ≤ 219)) (by decide)) (by decide : 219 ≤ 220)) (by decide)) (by decide : 220 ≤ 221)) (by decide)) (by decide : 221 ≤ 222)) (by decide)) (by decide : 222 ≤ 223)) (by decide)) (by decide : 223 ≤ 224)) (by decide)) (by decide : 224 ≤ 225)) (by decide)) (by decide : 225 ≤ 226)) (by decide)) (by decide : 226 ≤ 227)) (by decide)) (by decide : 227 ≤ 228)) (by decide)) (by decide : 228 ≤ 229)) (by decide)) (by decide : 229 ≤ 230)) (by decide)) (by decide : 230 ≤ 231)) (by decide)) (by decide : 231 ≤ 232)) (by decide)) (by decide : 232 ≤ 233)) (by decide)) (by decide) dX12_init_1092 ?_
  refine g_putF hg hnm ff_X12_153 ly194 rfl (by decide) (by decide) rfl rfl dX12_init_1094 ?_
  refine g_rload_n hg dX12_init_1097 rfl 0 rfl ?_
  refine g_bipush hg dX12_init_1098 kB_64 ?_
  refine g_newa (t := 1) (ty := .boolean) (N := 64) hg rfl (fun _ => rfl) (fun _ _ h => h) ly234 av_z wx2_98 (by decide) (by decide) (by decide) (Zr_up (Zr_mono (Zr_up (Zr_mono (Zr_up (Zr_mono (Zr_up (Zr_mono (Zr_up (Zr_mono (Zr_up (Zr_mono (Zr_up (Zr_mono (Zr_up (Zr_mono (Zr_up (Zr_mono (Zr_up (Zr_mono (Zr_up (Zr_mono (Zr_up (Zr_mono (Zr_up (Zr_mono (Zr_up (Zr_mono (Zr_up (Zr_mono (Zr_up (Zr_mono (Zr_up (Zr_mono (Zr_up (Zr_mono (Zr_up (Zr_mono (Zr_up (Zr_mono (Zr_up (Zr_mono (Zr_up (Zr_mono (Zr_up (Zr_mono (Zr_up (Zr_mono (Zr_up (Zr_mono (Zr_up (Zr_mono (Zr_up (Zr_mono (Zr_up (Zr_mono (Zr_up (Zr_mono (Zr_up (Zr_mono (Zr_up (Zr_mono (Zr_up (Zr_mono (Zr_sI hzW (by decide)) (by decide : 202 ≤ 203)) (by decide)) (by decide : 203 ≤ 204)) (by decide)) (by decide : 204 ≤ 205)) (by decide)) (by decide : 205 ≤ 206)) (by decide)) (by decide : 206 ≤ 207)) (by decide)) (by decide : 207 ≤ 208)) (by decide)) (by decide : 208 ≤ 209)) (by decide)) (by decide : 209 ≤ 210)) (by decide)) (by decide : 210 ≤ 211)) (by decide)) (by decide : 211 ≤ 212)) (by decide)) (by decide : 212 ≤ 213)) (by decide)) (by decide : 213 ≤ 214)) (by decide)) (by decide : 214 ≤ 215)) (by decide)) (by decide : 215 ≤ 216)) (by decide)) (by decide : 216 ≤ 217)) (by decide)) (by decide : 217 ≤ 218)) (by decide)) (by decide : 218 ≤ 219)) (by decide)) (by decide : 219 ≤ 220)) (by decide)) (by decide : 220 ≤ 221)) (by decide)) (by decide : 221 ≤ 222)) (by decide)) (by decide : 222 ≤ 223)) (by decide)) (by decide : 223 ≤ 224)) (by decide)) (by decide : 224 ≤ 225)) (by decide)) (by decide : 225 ≤ 226)) (by decide)) (by decide : 226 ≤ 227)) (by decide)) (by decide : 227 ≤ 228)) (by decide)) (by decide : 228 ≤ 229)) (by decide)) (by decide : 229 ≤ 230)) (by decide)) (by decide : 230 ≤ 231)) (by decide)) (by decide : 231 ≤ 232)) (by decide)) (by decide : 232 ≤ 233)) (by decide)) (by decide : 233 ≤ 234)) (by decide)) (by decide) dX12_init_1100 ?_
  refine g_putF hg hnm ff_X12_156 ly194 rfl (by decide) (by decide) rfl rfl dX12_init_1102 ?_
  refine g_rload_n hg dX12_init_1105 rfl 0 rfl ?_
  refine g_iconst hg dX12_init_1106 kI_3 ?_
  refine g_newa (t := 0) (ty := .int) (N := 3) hg rfl (fun _ => rfl) (fun _ _ h => h) ly235 av_i wx1_129 (by decide) (by decide) (by decide) (Zr_up (Zr_mono (Zr_up (Zr_mono (Zr_up (Zr_mono (Zr_up (Zr_mono (Zr_up (Zr_mono (Zr_up (Zr_mono (Zr_up (Zr_mono (Zr_up (Zr_mono (Zr_up (Zr_mono (Zr_up (Zr_mono (Zr_up (Zr_mono (Zr_up (Zr_mono (Zr_up (Zr_mono (Zr_up (Zr_mono (Zr_up (Zr_mono (Zr_up (Zr_mono (Zr_up (Zr_mono (Zr_up (Zr_mono (Zr_up (Zr_mono (Zr_up (Zr_mono (Zr_up (Zr_mono (Zr_up (Zr_mono (Zr_up (Zr_mono (Zr_up (Zr_mono (Zr_up (Zr_mono (Zr_up (Zr_mono (Zr_up (Zr_mono (Zr_up (Zr_mono (Zr_up (Zr_mono (Zr_up (Zr_mono (Zr_up (Zr_mono (Zr_up (Zr_mono (Zr_up (Zr_mono (Zr_sI hzW (by decide)) (by decide : 202 ≤ 203)) (by decide)) (by decide : 203 ≤ 204)) (by decide)) (by decide : 204 ≤ 205)) (by decide)) (by decide : 205 ≤ 206)) (by decide)) (by decide : 206 ≤ 207)) (by decide)) (by decide : 207 ≤ 208)) (by decide)) (by decide : 208 ≤ 209)) (by decide)) (by decide : 209 ≤ 210)) (by decide)) (by decide : 210 ≤ 211)) (by decide)) (by decide : 211 ≤ 212)) (by decide)) (by decide : 212 ≤ 213)) (by decide)) (by decide : 213 ≤ 214)) (by decide)) (by decide : 214 ≤ 215)) (by decide)) (by decide : 215 ≤ 216)) (by decide)) (by decide : 216 ≤ 217)) (by decide)) (by decide : 217 ≤ 218)) (by decide)) (by decide : 218 ≤ 219)) (by decide)) (by decide : 219 ≤ 220)) (by decide)) (by decide : 220 ≤ 221)) (by decide)) (by decide : 221 ≤ 222)) (by decide)) (by decide : 222 ≤ 223)) (by decide)) (by decide : 223 ≤ 224)) (by decide)) (by decide : 224 ≤ 225)) (by decide)) (by decide : 225 ≤ 226)) (by decide)) (by decide : 226 ≤ 227)) (by decide)) (by decide : 227 ≤ 228)) (by decide)) (by decide : 228 ≤ 229)) (by decide)) (by decide : 229 ≤ 230)) (by decide)) (by decide : 230 ≤ 231)) (by decide)) (by decide : 231 ≤ 232)) (by decide)) (by decide : 232 ≤ 233)) (by decide)) (by decide : 233 ≤ 234)) (by decide)) (by decide : 234 ≤ 235)) (by decide)) (by decide) dX12_init_1107 ?_
  refine g_putF hg hnm ff_X12_159 ly194 rfl (by decide) (by decide) rfl rfl dX12_init_1109 ?_
  refine g_rload_n hg dX12_init_1112 rfl 0 rfl ?_
  refine g_bipush hg dX12_init_1113 kB_8 ?_
  refine g_newa (t := 0) (ty := .int) (N := 8) hg rfl (fun _ => rfl) (fun _ _ h => h) ly236 av_i wx1_129 (by decide) (by decide) (by decide) (Zr_up (Zr_mono (Zr_up (Zr_mono (Zr_up (Zr_mono (Zr_up (Zr_mono (Zr_up (Zr_mono (Zr_up (Zr_mono (Zr_up (Zr_mono (Zr_up (Zr_mono (Zr_up (Zr_mono (Zr_up (Zr_mono (Zr_up (Zr_mono (Zr_up (Zr_mono (Zr_up (Zr_mono (Zr_up (Zr_mono (Zr_up (Zr_mono (Zr_up (Zr_mono (Zr_up (Zr_mono (Zr_up (Zr_mono (Zr_up (Zr_mono (Zr_up (Zr_mono (Zr_up (Zr_mono (Zr_up (Zr_mono (Zr_up (Zr_mono (Zr_up (Zr_mono (Zr_up (Zr_mono (Zr_up (Zr_mono (Zr_up (Zr_mono (Zr_up (Zr_mono (Zr_up (Zr_mono (Zr_up (Zr_mono (Zr_up (Zr_mono (Zr_up (Zr_mono (Zr_up (Zr_mono (Zr_up (Zr_mono (Zr_sI hzW (by decide)) (by decide : 202 ≤ 203)) (by decide)) (by decide : 203 ≤ 204)) (by decide)) (by decide : 204 ≤ 205)) (by decide)) (by decide : 205 ≤ 206)) (by decide)) (by decide : 206 ≤ 207)) (by decide)) (by decide : 207 ≤ 208)) (by decide)) (by decide : 208 ≤ 209)) (by decide)) (by decide : 209 ≤ 210)) (by decide)) (by decide : 210 ≤ 211)) (by decide)) (by decide : 211 ≤ 212)) (by decide)) (by decide : 212 ≤ 213)) (by decide)) (by decide : 213 ≤ 214)) (by decide)) (by decide : 214 ≤ 215)) (by decide)) (by decide : 215 ≤ 216)) (by decide)) (by decide : 216 ≤ 217)) (by decide)) (by decide : 217 ≤ 218)) (by decide)) (by decide : 218 ≤ 219)) (by decide)) (by decide : 219 ≤ 220)) (by decide)) (by decide : 220 ≤ 221)) (by decide)) (by decide : 221 ≤ 222)) (by decide)) (by decide : 222 ≤ 223)) (by decide)) (by decide : 223 ≤ 224)) (by decide)) (by decide : 224 ≤ 225)) (by decide)) (by decide : 225 ≤ 226)) (by decide)) (by decide : 226 ≤ 227)) (by decide)) (by decide : 227 ≤ 228)) (by decide)) (by decide : 228 ≤ 229)) (by decide)) (by decide : 229 ≤ 230)) (by decide)) (by decide : 230 ≤ 231)) (by decide)) (by decide : 231 ≤ 232)) (by decide)) (by decide : 232 ≤ 233)) (by decide)) (by decide : 233 ≤ 234)) (by decide)) (by decide : 234 ≤ 235)) (by decide)) (by decide : 235 ≤ 236)) (by decide)) (by decide) dX12_init_1115 ?_
  refine g_putF hg hnm ff_X12_162 ly194 rfl (by decide) (by decide) rfl rfl dX12_init_1117 ?_
  refine g_rload_n hg dX12_init_1120 rfl 0 rfl ?_
  refine g_bipush hg dX12_init_1121 kB_8 ?_
  refine g_newa (t := 0) (ty := .int) (N := 8) hg rfl (fun _ => rfl) (fun _ _ h => h) ly237 av_i wx1_129 (by decide) (by decide) (by decide) (Zr_up (Zr_mono (Zr_up (Zr_mono (Zr_up (Zr_mono (Zr_up (Zr_mono (Zr_up (Zr_mono (Zr_up (Zr_mono (Zr_up (Zr_mono (Zr_up (Zr_mono (Zr_up (Zr_mono (Zr_up (Zr_mono (Zr_up (Zr_mono (Zr_up (Zr_mono (Zr_up (Zr_mono (Zr_up (Zr_mono (Zr_up (Zr_mono (Zr_up (Zr_mono (Zr_up (Zr_mono (Zr_up (Zr_mono (Zr_up (Zr_mono (Zr_up (Zr_mono (Zr_up (Zr_mono (Zr_up (Zr_mono (Zr_up (Zr_mono (Zr_up (Zr_mono (Zr_up (Zr_mono (Zr_up (Zr_mono (Zr_up (Zr_mono (Zr_up (Zr_mono (Zr_up (Zr_mono (Zr_up (Zr_mono (Zr_up (Zr_mono (Zr_up (Zr_mono (Zr_up (Zr_mono (Zr_up (Zr_mono (Zr_up (Zr_mono (Zr_sI hzW (by decide)) (by decide : 202 ≤ 203)) (by decide)) (by decide : 203 ≤ 204)) (by decide)) (by decide : 204 ≤ 205)) (by decide)) (by decide : 205 ≤ 206)) (by decide)) (by decide : 206 ≤ 207)) (by decide)) (by decide : 207 ≤ 208)) (by decide)) (by decide : 208 ≤ 209)) (by decide)) (by decide : 209 ≤ 210)) (by decide)) (by decide : 210 ≤ 211)) (by decide)) (by decide : 211 ≤ 212)) (by decide)) (by decide : 212 ≤ 213)) (by decide)) (by decide : 213 ≤ 214)) (by decide)) (by decide : 214 ≤ 215)) (by decide)) (by decide : 215 ≤ 216)) (by decide)) (by decide : 216 ≤ 217)) (by decide)) (by decide : 217 ≤ 218)) (by decide)) (by decide : 218 ≤ 219)) (by decide)) (by decide : 219 ≤ 220)) (by decide)) (by decide : 220 ≤ 221)) (by decide)) (by decide : 221 ≤ 222)) (by decide)) (by decide : 222 ≤ 223)) (by decide)) (by decide : 223 ≤ 224)) (by decide)) (by decide : 224 ≤ 225)) (by decide)) (by decide : 225 ≤ 226)) (by decide)) (by decide : 226 ≤ 227)) (by decide)) (by decide : 227 ≤ 228)) (by decide)) (by decide : 228 ≤ 229)) (by decide)) (by decide : 229 ≤ 230)) (by decide)) (by decide : 230 ≤ 231)) (by decide)) (by decide : 231 ≤ 232)) (by decide)) (by decide : 232 ≤ 233)) (by decide)) (by decide : 233 ≤ 234)) (by decide)) (by decide : 234 ≤ 235)) (by decide)) (by decide : 235 ≤ 236)) (by decide)) (by decide : 236 ≤ 237)) (by decide)) (by decide) dX12_init_1123 ?_
  refine g_putF hg hnm ff_X12_165 ly194 rfl (by decide) (by decide) rfl rfl dX12_init_1125 ?_
  refine g_rload_n hg dX12_init_1128 rfl 0 rfl ?_
  refine g_callVv (d := d + 1) (As := []) (rest := []) hg (lkX12_bare (kq := (14, 6)) (by omega) (by decide) (rfok_model0 hz0) hMB) cv_X12_168 rfl ly194 (by decide) rfl rfl (Nat.le_of_ble_eq_true rfl) (by decide) dX12_init_1129 ?_
  exact g_vret hg hr dX12_init_1132
