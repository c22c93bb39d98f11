theorem dX0_init_0 : decode cX0_init 0 = .ok (.aload_n 0, 1) := by decide +kernel
theorem dX0_init_1 : decode cX0_init 1 = .ok (.invokespecial 3, 3) := by decide +kernel
theorem dX0_init_4 : decode cX0_init 4 = .ok (.aload_n 0, 1) := by decide +kernel
theorem dX0_init_5 : decode cX0_init 5 = .ok (.bipush 64, 2) := by decide +kernel
theorem dX0_init_7 : decode cX0_init 7 = .ok (.newarray .int, 2) := by decide +kernel
theorem dX0_init_9 : decode cX0_init 9 = .ok (.putfield 9, 3) := by decide +kernel
theorem dX0_init_12 : decode cX0_init 12 = .ok (.aload_n 0, 1) := by decide +kernel
theorem dX0_init_13 : decode cX0_init 13 = .ok (.bipush 64, 2) := by decide +kernel
theorem dX0_init_15 : decode cX0_init 15 = .ok (.newarray .int, 2) := by decide +kernel
theorem dX0_init_17 : decode cX0_init 17 = .ok (.putfield 15, 3) := by decide +kernel
theorem dX0_init_20 : decode cX0_init 20 = .ok (.aload_n 0, 1) := by decide +kernel
theorem dX0_init_21 : decode cX0_init 21 = .ok (.bipush 8, 2) := by decide +kernel
theorem dX0_init_23 : decode cX0_init 23 = .ok (.newarray .int, 2) := by decide +kernel
theorem dX0_init_25 : decode cX0_init 25 = .ok (.putfield 18, 3) := by decide +kernel
theorem dX0_init_28 : decode cX0_init 28 = .ok (.aload_n 0, 1) := by decide +kernel
theorem dX0_init_29 : decode cX0_init 29 = .ok (.bipush 8, 2) := by decide +kernel
theorem dX0_init_31 : decode cX0_init 31 = .ok (.newarray .int, 2) := by decide +kernel
theorem dX0_init_33 : decode cX0_init 33 = .ok (.putfield 21, 3) := by decide +kernel
theorem dX0_init_36 : decode cX0_init 36 = .ok (.aload_n 0, 1) := by decide +kernel
theorem dX0_init_37 : decode cX0_init 37 = .ok (.aload_n 1, 1) := by decide +kernel
theorem dX0_init_38 : decode cX0_init 38 = .ok (.putfield 24, 3) := by decide +kernel
theorem dX0_init_41 : decode cX0_init 41 = .ok (.return_, 1) := by decide +kernel
theorem dX0_compare_0 : decode cX0_compare 0 = .ok (.aload_n 0, 1) := by decide +kernel
theorem dX0_compare_1 : decode cX0_compare 1 = .ok (.iload_n 1, 1) := by decide +kernel
theorem dX0_compare_2 : decode cX0_compare 2 = .ok (.aload_n 0, 1) := by decide +kernel
theorem dX0_compare_3 : decode cX0_compare 3 = .ok (.getfield 9, 3) := by decide +kernel
theorem dX0_compare_6 : decode cX0_compare 6 = .ok (.invokevirtual 28, 3) := by decide +kernel
theorem dX0_compare_9 : decode cX0_compare 9 = .ok (.aload_n 0, 1) := by decide +kernel
theorem dX0_compare_10 : decode cX0_compare 10 = .ok (.iload_n 2, 1) := by decide +kernel
theorem dX0_compare_11 : decode cX0_compare 11 = .ok (.aload_n 0, 1) := by decide +kernel
theorem dX0_compare_12 : decode cX0_compare 12 = .ok (.getfield 15, 3) := by decide +kernel
theorem dX0_compare_15 : decode cX0_compare 15 = .ok (.invokevirtual 28, 3) := by decide +kernel
theorem dX0_compare_18 : decode cX0_compare 18 = .ok (.aload_n 0, 1) := by decide +kernel
theorem dX0_compare_19 : decode cX0_compare 19 = .ok (.invokevirtual 32, 3) := by decide +kernel
theorem dX0_compare_22 : decode cX0_compare 22 = .ok (.aload_n 0, 1) := by decide +kernel
theorem dX0_compare_23 : decode cX0_compare 23 = .ok (.iconst 0, 1) := by decide +kernel
theorem dX0_compare_24 : decode cX0_compare 24 = .ok (.putfield 35, 3) := by decide +kernel
theorem dX0_compare_27 : decode cX0_compare 27 = .ok (.iconst 0, 1) := by decide +kernel
theorem dX0_compare_28 : decode cX0_compare 28 = .ok (.istore_n 3, 1) := by decide +kernel
theorem dX0_compare_29 : decode cX0_compare 29 = .ok (.iload_n 3, 1) := by decide +kernel
theorem dX0_compare_30 : decode cX0_compare 30 = .ok (.bipush 8, 2) := by decide +kernel
theorem dX0_compare_32 : decode cX0_compare 32 = .ok (.if_icmp .ge 31, 3) := by decide +kernel
theorem dX0_compare_35 : decode cX0_compare 35 = .ok (.aload_n 0, 1) := by decide +kernel
theorem dX0_compare_36 : decode cX0_compare 36 = .ok (.dup, 1) := by decide +kernel
theorem dX0_compare_37 : decode cX0_compare 37 = .ok (.getfield 35, 3) := by decide +kernel
theorem dX0_compare_40 : decode cX0_compare 40 = .ok (.aload_n 0, 1) := by decide +kernel
theorem dX0_compare_41 : decode cX0_compare 41 = .ok (.getfield 18, 3) := by decide +kernel
theorem dX0_compare_44 : decode cX0_compare 44 = .ok (.iload_n 3, 1) := by decide +kernel
theorem dX0_compare_45 : decode cX0_compare 45 = .ok (.iaload, 1) := by decide +kernel
theorem dX0_compare_46 : decode cX0_compare 46 = .ok (.aload_n 0, 1) := by decide +kernel
theorem dX0_compare_47 : decode cX0_compare 47 = .ok (.getfield 21, 3) := by decide +kernel
theorem dX0_compare_50 : decode cX0_compare 50 = .ok (.iload_n 3, 1) := by decide +kernel
theorem dX0_compare_51 : decode cX0_compare 51 = .ok (.iaload, 1) := by decide +kernel
theorem dX0_compare_52 : decode cX0_compare 52 = .ok (.imul, 1) := by decide +kernel
theorem dX0_compare_53 : decode cX0_compare 53 = .ok (.iadd, 1) := by decide +kernel
theorem dX0_compare_54 : decode cX0_compare 54 = .ok (.putfield 35, 3) := by decide +kernel
theorem dX0_compare_57 : decode cX0_compare 57 = .ok (.iinc 3 1, 3) := by decide +kernel
theorem dX0_compare_60 : decode cX0_compare 60 = .ok (.goto (-31), 3) := by decide +kernel
theorem dX0_compare_63 : decode cX0_compare 63 = .ok (.aload_n 0, 1) := by decide +kernel
theorem dX0_compare_64 : decode cX0_compare 64 = .ok (.getfield 39, 3) := by decide +kernel
theorem dX0_compare_67 : decode cX0_compare 67 = .ok (.aload_n 0, 1) := by decide +kernel
theorem dX0_compare_68 : decode cX0_compare 68 = .ok (.getfield 42, 3) := by decide +kernel
theorem dX0_compare_71 : decode cX0_compare 71 = .ok (.imul, 1) := by decide +kernel
theorem dX0_compare_72 : decode cX0_compare 72 = .ok (.aload_n 0, 1) := by decide +kernel
theorem dX0_compare_73 : decode cX0_compare 73 = .ok (.getfield 35, 3) := by decide +kernel
theorem dX0_compare_76 : decode cX0_compare 76 = .ok (.isub, 1) := by decide +kernel
theorem dX0_compare_77 : decode cX0_compare 77 = .ok (.aload_n 0, 1) := by decide +kernel
theorem dX0_compare_78 : decode cX0_compare 78 = .ok (.getfield 42, 3) := by decide +kernel
theorem dX0_compare_81 : decode cX0_compare 81 = .ok (.aload_n 0, 1) := by decide +kernel
theorem dX0_compare_82 : decode cX0_compare 82 = .ok (.getfield 42, 3) := by decide +kernel
theorem dX0_compare_85 : decode cX0_compare 85 = .ok (.imul, 1) := by decide +kernel
theorem dX0_compare_86 : decode cX0_compare 86 = .ok (.aload_n 0, 1) := by decide +kernel
theorem dX0_compare_87 : decode cX0_compare 87 = .ok (.getfield 35, 3) := by decide +kernel
theorem dX0_compare_90 : decode cX0_compare 90 = .ok (.isub, 1) := by decide +kernel
theorem dX0_compare_91 : decode cX0_compare 91 = .ok (.invokestatic 45, 3) := by decide +kernel
theorem dX0_compare_94 : decode cX0_compare 94 = .ok (.istore_n 3, 1) := by decide +kernel
theorem dX0_compare_95 : decode cX0_compare 95 = .ok (.aload_n 0, 1) := by decide +kernel
theorem dX0_compare_96 : decode cX0_compare 96 = .ok (.iload_n 3, 1) := by decide +kernel
theorem dX0_compare_97 : decode cX0_compare 97 = .ok (.ifCond .le 22, 3) := by decide +kernel
theorem dX0_compare_100 : decode cX0_compare 100 = .ok (.aload_n 0, 1) := by decide +kernel
theorem dX0_compare_101 : decode cX0_compare 101 = .ok (.getfield 39, 3) := by decide +kernel
theorem dX0_compare_104 : decode cX0_compare 104 = .ok (.aload_n 0, 1) := by decide +kernel
theorem dX0_compare_105 : decode cX0_compare 105 = .ok (.getfield 42, 3) := by decide +kernel
theorem dX0_compare_108 : decode cX0_compare 108 = .ok (.imul, 1) := by decide +kernel
theorem dX0_compare_109 : decode cX0_compare 109 = .ok (.aload_n 0, 1) := by decide +kernel
theorem dX0_compare_110 : decode cX0_compare 110 = .ok (.getfield 35, 3) := by decide +kernel
theorem dX0_compare_113 : decode cX0_compare 113 = .ok (.isub, 1) := by decide +kernel
theorem dX0_compare_114 : decode cX0_compare 114 = .ok (.iload_n 3, 1) := by decide +kernel
theorem dX0_compare_115 : decode cX0_compare 115 = .ok (.idiv, 1) := by decide +kernel
theorem dX0_compare_116 : decode cX0_compare 116 = .ok (.goto 4, 3) := by decide +kernel
theorem dX0_compare_119 : decode cX0_compare 119 = .ok (.iconst 0, 1) := by decide +kernel
theorem dX0_compare_120 : decode cX0_compare 120 = .ok (.putfield 49, 3) := by decide +kernel
theorem dX0_compare_123 : decode cX0_compare 123 = .ok (.aload_n 0, 1) := by decide +kernel
theorem dX0_compare_124 : decode cX0_compare 124 = .ok (.iload_n 3, 1) := by decide +kernel
theorem dX0_compare_125 : decode cX0_compare 125 = .ok (.ifCond .le 22, 3) := by decide +kernel
theorem dX0_compare_128 : decode cX0_compare 128 = .ok (.aload_n 0, 1) := by decide +kernel
theorem dX0_compare_129 : decode cX0_compare 129 = .ok (.getfield 42, 3) := by decide +kernel
theorem dX0_compare_132 : decode cX0_compare 132 = .ok (.aload_n 0, 1) := by decide +kernel
theorem dX0_compare_133 : decode cX0_compare 133 = .ok (.getfield 42, 3) := by decide +kernel
theorem dX0_compare_136 : decode cX0_compare 136 = .ok (.imul, 1) := by decide +kernel
theorem dX0_compare_137 : decode cX0_compare 137 = .ok (.aload_n 0, 1) := by decide +kernel
theorem dX0_compare_138 : decode cX0_compare 138 = .ok (.getfield 35, 3) := by decide +kernel
theorem dX0_compare_141 : decode cX0_compare 141 = .ok (.isub, 1) := by decide +kernel
theorem dX0_compare_142 : decode cX0_compare 142 = .ok (.iload_n 3, 1) := by decide +kernel
theorem dX0_compare_143 : decode cX0_compare 143 = .ok (.idiv, 1) := by decide +kernel
theorem dX0_compare_144 : decode cX0_compare 144 = .ok (.goto 4, 3) := by decide +kernel
theorem dX0_compare_147 : decode cX0_compare 147 = .ok (.iconst 0, 1) := by decide +kernel
theorem dX0_compare_148 : decode cX0_compare 148 = .ok (.putfield 52, 3) := by decide +kernel
theorem dX0_compare_151 : decode cX0_compare 151 = .ok (.return_, 1) := by decide +kernel
theorem dX0_findLatest_0 : decode cX0_findLatest 0 = .ok (.iconst 0, 1) := by decide +kernel
theorem dX0_findLatest_1 : decode cX0_findLatest 1 = .ok (.istore_n 3, 1) := by decide +kernel
theorem dX0_findLatest_2 : decode cX0_findLatest 2 = .ok (.iload_n 3, 1) := by decide +kernel
theorem dX0_findLatest_3 : decode cX0_findLatest 3 = .ok (.bipush 64, 2) := by decide +kernel
theorem dX0_findLatest_5 : decode cX0_findLatest 5 = .ok (.if_icmp .ge 13, 3) := by decide +kernel
theorem dX0_findLatest_8 : decode cX0_findLatest 8 = .ok (.aload_n 2, 1) := by decide +kernel
theorem dX0_findLatest_9 : decode cX0_findLatest 9 = .ok (.iload_n 3, 1) := by decide +kernel
theorem dX0_findLatest_10 : decode cX0_findLatest 10 = .ok (.iconst (-1), 1) := by decide +kernel
theorem dX0_findLatest_11 : decode cX0_findLatest 11 = .ok (.iastore, 1) := by decide +kernel
theorem dX0_findLatest_12 : decode cX0_findLatest 12 = .ok (.iinc 3 1, 3) := by decide +kernel
theorem dX0_findLatest_15 : decode cX0_findLatest 15 = .ok (.goto (-13), 3) := by decide +kernel
theorem dX0_findLatest_18 : decode cX0_findLatest 18 = .ok (.iconst 0, 1) := by decide +kernel
theorem dX0_findLatest_19 : decode cX0_findLatest 19 = .ok (.istore_n 3, 1) := by decide +kernel
theorem dX0_findLatest_20 : decode cX0_findLatest 20 = .ok (.iload_n 3, 1) := by decide +kernel
theorem dX0_findLatest_21 : decode cX0_findLatest 21 = .ok (.aload_n 0, 1) := by decide +kernel
theorem dX0_findLatest_22 : decode cX0_findLatest 22 = .ok (.getfield 24, 3) := by decide +kernel
theorem dX0_findLatest_25 : decode cX0_findLatest 25 = .ok (.getfield 55, 3) := by decide +kernel
theorem dX0_findLatest_28 : decode cX0_findLatest 28 = .ok (.if_icmp .ge 49, 3) := by decide +kernel
theorem dX0_findLatest_31 : decode cX0_findLatest 31 = .ok (.aload_n 0, 1) := by decide +kernel
theorem dX0_findLatest_32 : decode cX0_findLatest 32 = .ok (.getfield 24, 3) := by decide +kernel
theorem dX0_findLatest_35 : decode cX0_findLatest 35 = .ok (.getfield 60, 3) := by decide +kernel
theorem dX0_findLatest_38 : decode cX0_findLatest 38 = .ok (.aload_n 0, 1) := by decide +kernel
theorem dX0_findLatest_39 : decode cX0_findLatest 39 = .ok (.getfield 24, 3) := by decide +kernel
theorem dX0_findLatest_42 : decode cX0_findLatest 42 = .ok (.getfield 64, 3) := by decide +kernel
theorem dX0_findLatest_45 : decode cX0_findLatest 45 = .ok (.iload_n 3, 1) := by decide +kernel
theorem dX0_findLatest_46 : decode cX0_findLatest 46 = .ok (.iaload, 1) := by decide +kernel
theorem dX0_findLatest_47 : decode cX0_findLatest 47 = .ok (.aaload, 1) := by decide +kernel
theorem dX0_findLatest_48 : decode cX0_findLatest 48 = .ok (.astore 4, 2) := by decide +kernel
theorem dX0_findLatest_50 : decode cX0_findLatest 50 = .ok (.aload 4, 2) := by decide +kernel
theorem dX0_findLatest_52 : decode cX0_findLatest 52 = .ok (.getfield 67, 3) := by decide +kernel
theorem dX0_findLatest_55 : decode cX0_findLatest 55 = .ok (.iload_n 1, 1) := by decide +kernel
theorem dX0_findLatest_56 : decode cX0_findLatest 56 = .ok (.if_icmp .ne 15, 3) := by decide +kernel
theorem dX0_findLatest_59 : decode cX0_findLatest 59 = .ok (.aload_n 2, 1) := by decide +kernel
theorem dX0_findLatest_60 : decode cX0_findLatest 60 = .ok (.aload 4, 2) := by decide +kernel
theorem dX0_findLatest_62 : decode cX0_findLatest 62 = .ok (.getfield 72, 3) := by decide +kernel
theorem dX0_findLatest_65 : decode cX0_findLatest 65 = .ok (.aload 4, 2) := by decide +kernel
theorem dX0_findLatest_67 : decode cX0_findLatest 67 = .ok (.getfield 75, 3) := by decide +kernel
theorem dX0_findLatest_70 : decode cX0_findLatest 70 = .ok (.iastore, 1) := by decide +kernel
theorem dX0_findLatest_71 : decode cX0_findLatest 71 = .ok (.iinc 3 1, 3) := by decide +kernel
theorem dX0_findLatest_74 : decode cX0_findLatest 74 = .ok (.goto (-54), 3) := by decide +kernel
theorem dX0_findLatest_77 : decode cX0_findLatest 77 = .ok (.return_, 1) := by decide +kernel
theorem dX0_countCells_0 : decode cX0_countCells 0 = .ok (.aload_n 0, 1) := by decide +kernel
theorem dX0_countCells_1 : decode cX0_countCells 1 = .ok (.iconst 0, 1) := by decide +kernel
theorem dX0_countCells_2 : decode cX0_countCells 2 = .ok (.putfield 42, 3) := by decide +kernel
theorem dX0_countCells_5 : decode cX0_countCells 5 = .ok (.aload_n 0, 1) := by decide +kernel
theorem dX0_countCells_6 : decode cX0_countCells 6 = .ok (.iconst 0, 1) := by decide +kernel
theorem dX0_countCells_7 : decode cX0_countCells 7 = .ok (.putfield 39, 3) := by decide +kernel
theorem dX0_countCells_10 : decode cX0_countCells 10 = .ok (.iconst 0, 1) := by decide +kernel
theorem dX0_countCells_11 : decode cX0_countCells 11 = .ok (.istore_n 1, 1) := by decide +kernel
theorem dX0_countCells_12 : decode cX0_countCells 12 = .ok (.iload_n 1, 1) := by decide +kernel
theorem dX0_countCells_13 : decode cX0_countCells 13 = .ok (.bipush 8, 2) := by decide +kernel
theorem dX0_countCells_15 : decode cX0_countCells 15 = .ok (.if_icmp .ge 23, 3) := by decide +kernel
theorem dX0_countCells_18 : decode cX0_countCells 18 = .ok (.aload_n 0, 1) := by decide +kernel
theorem dX0_countCells_19 : decode cX0_countCells 19 = .ok (.getfield 18, 3) := by decide +kernel
theorem dX0_countCells_22 : decode cX0_countCells 22 = .ok (.iload_n 1, 1) := by decide +kernel
theorem dX0_countCells_23 : decode cX0_countCells 23 = .ok (.iconst 0, 1) := by decide +kernel
theorem dX0_countCells_24 : decode cX0_countCells 24 = .ok (.iastore, 1) := by decide +kernel
theorem dX0_countCells_25 : decode cX0_countCells 25 = .ok (.aload_n 0, 1) := by decide +kernel
theorem dX0_countCells_26 : decode cX0_countCells 26 = .ok (.getfield 21, 3) := by decide +kernel
theorem dX0_countCells_29 : decode cX0_countCells 29 = .ok (.iload_n 1, 1) := by decide +kernel
theorem dX0_countCells_30 : decode cX0_countCells 30 = .ok (.iconst 0, 1) := by decide +kernel
theorem dX0_countCells_31 : decode cX0_countCells 31 = .ok (.iastore, 1) := by decide +kernel
theorem dX0_countCells_32 : decode cX0_countCells 32 = .ok (.iinc 1 1, 3) := by decide +kernel
theorem dX0_countCells_35 : decode cX0_countCells 35 = .ok (.goto (-23), 3) := by decide +kernel
theorem dX0_countCells_38 : decode cX0_countCells 38 = .ok (.iconst 0, 1) := by decide +kernel
theorem dX0_countCells_39 : decode cX0_countCells 39 = .ok (.istore_n 1, 1) := by decide +kernel
theorem dX0_countCells_40 : decode cX0_countCells 40 = .ok (.iload_n 1, 1) := by decide +kernel
theorem dX0_countCells_41 : decode cX0_countCells 41 = .ok (.bipush 64, 2) := by decide +kernel
theorem dX0_countCells_43 : decode cX0_countCells 43 = .ok (.if_icmp .ge 82, 3) := by decide +kernel
theorem dX0_countCells_46 : decode cX0_countCells 46 = .ok (.aload_n 0, 1) := by decide +kernel
theorem dX0_countCells_47 : decode cX0_countCells 47 = .ok (.getfield 9, 3) := by decide +kernel
theorem dX0_countCells_50 : decode cX0_countCells 50 = .ok (.iload_n 1, 1) := by decide +kernel
theorem dX0_countCells_51 : decode cX0_countCells 51 = .ok (.iaload, 1) := by decide +kernel
theorem dX0_countCells_52 : decode cX0_countCells 52 = .ok (.istore_n 2, 1) := by decide +kernel
theorem dX0_countCells_53 : decode cX0_countCells 53 = .ok (.aload_n 0, 1) := by decide +kernel
theorem dX0_countCells_54 : decode cX0_countCells 54 = .ok (.getfield 15, 3) := by decide +kernel
theorem dX0_countCells_57 : decode cX0_countCells 57 = .ok (.iload_n 1, 1) := by decide +kernel
theorem dX0_countCells_58 : decode cX0_countCells 58 = .ok (.iaload, 1) := by decide +kernel
theorem dX0_countCells_59 : decode cX0_countCells 59 = .ok (.istore_n 3, 1) := by decide +kernel
theorem dX0_countCells_60 : decode cX0_countCells 60 = .ok (.iload_n 2, 1) := by decide +kernel
theorem dX0_countCells_61 : decode cX0_countCells 61 = .ok (.iconst (-1), 1) := by decide +kernel
theorem dX0_countCells_62 : decode cX0_countCells 62 = .ok (.if_icmp .eq 57, 3) := by decide +kernel
theorem dX0_countCells_65 : decode cX0_countCells 65 = .ok (.iload_n 3, 1) := by decide +kernel
theorem dX0_countCells_66 : decode cX0_countCells 66 = .ok (.iconst (-1), 1) := by decide +kernel
theorem dX0_countCells_67 : decode cX0_countCells 67 = .ok (.if_icmp .eq 52, 3) := by decide +kernel
theorem dX0_countCells_70 : decode cX0_countCells 70 = .ok (.aload_n 0, 1) := by decide +kernel
theorem dX0_countCells_71 : decode cX0_countCells 71 = .ok (.dup, 1) := by decide +kernel
theorem dX0_countCells_72 : decode cX0_countCells 72 = .ok (.getfield 42, 3) := by decide +kernel
theorem dX0_countCells_75 : decode cX0_countCells 75 = .ok (.iconst 1, 1) := by decide +kernel
theorem dX0_countCells_76 : decode cX0_countCells 76 = .ok (.iadd, 1) := by decide +kernel
theorem dX0_countCells_77 : decode cX0_countCells 77 = .ok (.putfield 42, 3) := by decide +kernel
theorem dX0_countCells_80 : decode cX0_countCells 80 = .ok (.aload_n 0, 1) := by decide +kernel
theorem dX0_countCells_81 : decode cX0_countCells 81 = .ok (.dup, 1) := by decide +kernel
theorem dX0_countCells_82 : decode cX0_countCells 82 = .ok (.getfield 39, 3) := by decide +kernel
theorem dX0_countCells_85 : decode cX0_countCells 85 = .ok (.iload_n 2, 1) := by decide +kernel
theorem dX0_countCells_86 : decode cX0_countCells 86 = .ok (.iload_n 3, 1) := by decide +kernel
theorem dX0_countCells_87 : decode cX0_countCells 87 = .ok (.if_icmp .ne 7, 3) := by decide +kernel
theorem dX0_countCells_90 : decode cX0_countCells 90 = .ok (.iconst 1, 1) := by decide +kernel
theorem dX0_countCells_91 : decode cX0_countCells 91 = .ok (.goto 4, 3) := by decide +kernel
theorem dX0_countCells_94 : decode cX0_countCells 94 = .ok (.iconst 0, 1) := by decide +kernel
theorem dX0_countCells_95 : decode cX0_countCells 95 = .ok (.iadd, 1) := by decide +kernel
theorem dX0_countCells_96 : decode cX0_countCells 96 = .ok (.putfield 39, 3) := by decide +kernel
theorem dX0_countCells_99 : decode cX0_countCells 99 = .ok (.aload_n 0, 1) := by decide +kernel
theorem dX0_countCells_100 : decode cX0_countCells 100 = .ok (.getfield 18, 3) := by decide +kernel
theorem dX0_countCells_103 : decode cX0_countCells 103 = .ok (.iload_n 2, 1) := by decide +kernel
theorem dX0_countCells_104 : decode cX0_countCells 104 = .ok (.dup2, 1) := by decide +kernel
theorem dX0_countCells_105 : decode cX0_countCells 105 = .ok (.iaload, 1) := by decide +kernel
theorem dX0_countCells_106 : decode cX0_countCells 106 = .ok (.iconst 1, 1) := by decide +kernel
theorem dX0_countCells_107 : decode cX0_countCells 107 = .ok (.iadd, 1) := by decide +kernel
theorem dX0_countCells_108 : decode cX0_countCells 108 = .ok (.iastore, 1) := by decide +kernel
theorem dX0_countCells_109 : decode cX0_countCells 109 = .ok (.aload_n 0, 1) := by decide +kernel
theorem dX0_countCells_110 : decode cX0_countCells 110 = .ok (.getfield 21, 3) := by decide +kernel
theorem dX0_countCells_113 : decode cX0_countCells 113 = .ok (.iload_n 3, 1) := by decide +kernel
theorem dX0_countCells_114 : decode cX0_countCells 114 = .ok (.dup2, 1) := by decide +kernel
theorem dX0_countCells_115 : decode cX0_countCells 115 = .ok (.iaload, 1) := by decide +kernel
theorem dX0_countCells_116 : decode cX0_countCells 116 = .ok (.iconst 1, 1) := by decide +kernel
theorem dX0_countCells_117 : decode cX0_countCells 117 = .ok (.iadd, 1) := by decide +kernel
theorem dX0_countCells_118 : decode cX0_countCells 118 = .ok (.iastore, 1) := by decide +kernel
theorem dX0_countCells_119 : decode cX0_countCells 119 = .ok (.iinc 1 1, 3) := by decide +kernel
theorem dX0_countCells_122 : decode cX0_countCells 122 = .ok (.goto (-82), 3) := by decide +kernel
theorem dX0_countCells_125 : decode cX0_countCells 125 = .ok (.return_, 1) := by decide +kernel
theorem dX0_greatestDivisor_0 : decode cX0_greatestDivisor 0 = .ok (.iload_n 0, 1) := by decide +kernel
theorem dX0_greatestDivisor_1 : decode cX0_greatestDivisor 1 = .ok (.invokestatic 78, 3) := by decide +kernel
theorem dX0_greatestDivisor_4 : decode cX0_greatestDivisor 4 = .ok (.istore_n 2, 1) := by decide +kernel
theorem dX0_greatestDivisor_5 : decode cX0_greatestDivisor 5 = .ok (.iload_n 1, 1) := by decide +kernel
theorem dX0_greatestDivisor_6 : decode cX0_greatestDivisor 6 = .ok (.invokestatic 78, 3) := by decide +kernel
theorem dX0_greatestDivisor_9 : decode cX0_greatestDivisor 9 = .ok (.istore_n 3, 1) := by decide +kernel
theorem dX0_greatestDivisor_10 : decode cX0_greatestDivisor 10 = .ok (.iconst 0, 1) := by decide +kernel
theorem dX0_greatestDivisor_11 : decode cX0_greatestDivisor 11 = .ok (.istore 4, 2) := by decide +kernel
theorem dX0_greatestDivisor_13 : decode cX0_greatestDivisor 13 = .ok (.iload 4, 2) := by decide +kernel
theorem dX0_greatestDivisor_15 : decode cX0_greatestDivisor 15 = .ok (.bipush 64, 2) := by decide +kernel
theorem dX0_greatestDivisor_17 : decode cX0_greatestDivisor 17 = .ok (.if_icmp .ge 23, 3) := by decide +kernel
theorem dX0_greatestDivisor_20 : decode cX0_greatestDivisor 20 = .ok (.iload_n 3, 1) := by decide +kernel
theorem dX0_greatestDivisor_21 : decode cX0_greatestDivisor 21 = .ok (.ifCond .eq 19, 3) := by decide +kernel
theorem dX0_greatestDivisor_24 : decode cX0_greatestDivisor 24 = .ok (.iload_n 2, 1) := by decide +kernel
theorem dX0_greatestDivisor_25 : decode cX0_greatestDivisor 25 = .ok (.iload_n 3, 1) := by decide +kernel
theorem dX0_greatestDivisor_26 : decode cX0_greatestDivisor 26 = .ok (.irem, 1) := by decide +kernel
theorem dX0_greatestDivisor_27 : decode cX0_greatestDivisor 27 = .ok (.istore 5, 2) := by decide +kernel
theorem dX0_greatestDivisor_29 : decode cX0_greatestDivisor 29 = .ok (.iload_n 3, 1) := by decide +kernel
theorem dX0_greatestDivisor_30 : decode cX0_greatestDivisor 30 = .ok (.istore_n 2, 1) := by decide +kernel
theorem dX0_greatestDivisor_31 : decode cX0_greatestDivisor 31 = .ok (.iload 5, 2) := by decide +kernel
theorem dX0_greatestDivisor_33 : decode cX0_greatestDivisor 33 = .ok (.istore_n 3, 1) := by decide +kernel
theorem dX0_greatestDivisor_34 : decode cX0_greatestDivisor 34 = .ok (.iinc 4 1, 3) := by decide +kernel
theorem dX0_greatestDivisor_37 : decode cX0_greatestDivisor 37 = .ok (.goto (-24), 3) := by decide +kernel
theorem dX0_greatestDivisor_40 : decode cX0_greatestDivisor 40 = .ok (.iload_n 2, 1) := by decide +kernel
theorem dX0_greatestDivisor_41 : decode cX0_greatestDivisor 41 = .ok (.ireturn, 1) := by decide +kernel
theorem dX1_init_0 : decode cX1_init 0 = .ok (.aload_n 0, 1) := by decide +kernel
theorem dX1_init_1 : decode cX1_init 1 = .ok (.invokespecial 3, 3) := by decide +kernel
theorem dX1_init_4 : decode cX1_init 4 = .ok (.aload_n 0, 1) := by decide +kernel
theorem dX1_init_5 : decode cX1_init 5 = .ok (.bipush 60, 2) := by decide +kernel
theorem dX1_init_7 : decode cX1_init 7 = .ok (.anewarray 9, 3) := by decide +kernel
theorem dX1_init_10 : decode cX1_init 10 = .ok (.putfield 11, 3) := by decide +kernel
theorem dX1_init_13 : decode cX1_init 13 = .ok (.aload_n 0, 1) := by decide +kernel
theorem dX1_init_14 : decode cX1_init 14 = .ok (.bipush 60, 2) := by decide +kernel
theorem dX1_init_16 : decode cX1_init 16 = .ok (.newarray .int, 2) := by decide +kernel
theorem dX1_init_18 : decode cX1_init 18 = .ok (.putfield 17, 3) := by decide +kernel
theorem dX1_init_21 : decode cX1_init 21 = .ok (.aload_n 0, 1) := by decide +kernel
theorem dX1_init_22 : decode cX1_init 22 = .ok (.bipush 60, 2) := by decide +kernel
theorem dX1_init_24 : decode cX1_init 24 = .ok (.newarray .boolean, 2) := by decide +kernel
theorem dX1_init_26 : decode cX1_init 26 = .ok (.putfield 21, 3) := by decide +kernel
theorem dX1_init_29 : decode cX1_init 29 = .ok (.iconst 0, 1) := by decide +kernel
theorem dX1_init_30 : decode cX1_init 30 = .ok (.istore_n 1, 1) := by decide +kernel
theorem dX1_init_31 : decode cX1_init 31 = .ok (.iload_n 1, 1) := by decide +kernel
theorem dX1_init_32 : decode cX1_init 32 = .ok (.bipush 60, 2) := by decide +kernel
theorem dX1_init_34 : decode cX1_init 34 = .ok (.if_icmp .ge 22, 3) := by decide +kernel
theorem dX1_init_37 : decode cX1_init 37 = .ok (.aload_n 0, 1) := by decide +kernel
theorem dX1_init_38 : decode cX1_init 38 = .ok (.getfield 11, 3) := by decide +kernel
theorem dX1_init_41 : decode cX1_init 41 = .ok (.iload_n 1, 1) := by decide +kernel
theorem dX1_init_42 : decode cX1_init 42 = .ok (.new 9, 3) := by decide +kernel
theorem dX1_init_45 : decode cX1_init 45 = .ok (.dup, 1) := by decide +kernel
theorem dX1_init_46 : decode cX1_init 46 = .ok (.invokespecial 25, 3) := by decide +kernel
theorem dX1_init_49 : decode cX1_init 49 = .ok (.aastore, 1) := by decide +kernel
theorem dX1_init_50 : decode cX1_init 50 = .ok (.iinc 1 1, 3) := by decide +kernel
theorem dX1_init_53 : decode cX1_init 53 = .ok (.goto (-22), 3) := by decide +kernel
theorem dX1_init_56 : decode cX1_init 56 = .ok (.return_, 1) := by decide +kernel
theorem dX1_hasNote_0 : decode cX1_hasNote 0 = .ok (.iload_n 1, 1) := by decide +kernel
theorem dX1_hasNote_1 : decode cX1_hasNote 1 = .ok (.ifCond .lt 15, 3) := by decide +kernel
theorem dX1_hasNote_4 : decode cX1_hasNote 4 = .ok (.iload_n 1, 1) := by decide +kernel
theorem dX1_hasNote_5 : decode cX1_hasNote 5 = .ok (.aload_n 0, 1) := by decide +kernel
theorem dX1_hasNote_6 : decode cX1_hasNote 6 = .ok (.getfield 26, 3) := by decide +kernel
theorem dX1_hasNote_9 : decode cX1_hasNote 9 = .ok (.if_icmp .ge 7, 3) := by decide +kernel
theorem dX1_hasNote_12 : decode cX1_hasNote 12 = .ok (.iconst 1, 1) := by decide +kernel
theorem dX1_hasNote_13 : decode cX1_hasNote 13 = .ok (.goto 4, 3) := by decide +kernel
theorem dX1_hasNote_16 : decode cX1_hasNote 16 = .ok (.iconst 0, 1) := by decide +kernel
theorem dX1_hasNote_17 : decode cX1_hasNote 17 = .ok (.ireturn, 1) := by decide +kernel
theorem dX1_hasBore_0 : decode cX1_hasBore 0 = .ok (.aload_n 0, 1) := by decide +kernel
theorem dX1_hasBore_1 : decode cX1_hasBore 1 = .ok (.iload_n 1, 1) := by decide +kernel
theorem dX1_hasBore_2 : decode cX1_hasBore 2 = .ok (.invokevirtual 30, 3) := by decide +kernel
theorem dX1_hasBore_5 : decode cX1_hasBore 5 = .ok (.ifCond .eq 20, 3) := by decide +kernel
theorem dX1_hasBore_8 : decode cX1_hasBore 8 = .ok (.aload_n 0, 1) := by decide +kernel
theorem dX1_hasBore_9 : decode cX1_hasBore 9 = .ok (.getfield 11, 3) := by decide +kernel
theorem dX1_hasBore_12 : decode cX1_hasBore 12 = .ok (.iload_n 1, 1) := by decide +kernel
theorem dX1_hasBore_13 : decode cX1_hasBore 13 = .ok (.aaload, 1) := by decide +kernel
theorem dX1_hasBore_14 : decode cX1_hasBore 14 = .ok (.getfield 34, 3) := by decide +kernel
theorem dX1_hasBore_17 : decode cX1_hasBore 17 = .ok (.iconst (-1), 1) := by decide +kernel
theorem dX1_hasBore_18 : decode cX1_hasBore 18 = .ok (.if_icmp .ne 7, 3) := by decide +kernel
theorem dX1_hasBore_21 : decode cX1_hasBore 21 = .ok (.iconst 1, 1) := by decide +kernel
theorem dX1_hasBore_22 : decode cX1_hasBore 22 = .ok (.goto 4, 3) := by decide +kernel
theorem dX1_hasBore_25 : decode cX1_hasBore 25 = .ok (.iconst 0, 1) := by decide +kernel
theorem dX1_hasBore_26 : decode cX1_hasBore 26 = .ok (.ireturn, 1) := by decide +kernel
theorem dX1_knows_0 : decode cX1_knows 0 = .ok (.iload_n 1, 1) := by decide +kernel
theorem dX1_knows_1 : decode cX1_knows 1 = .ok (.ifCond .lt 15, 3) := by decide +kernel
theorem dX1_knows_4 : decode cX1_knows 4 = .ok (.iload_n 1, 1) := by decide +kernel
theorem dX1_knows_5 : decode cX1_knows 5 = .ok (.aload_n 0, 1) := by decide +kernel
theorem dX1_knows_6 : decode cX1_knows 6 = .ok (.getfield 26, 3) := by decide +kernel
theorem dX1_knows_9 : decode cX1_knows 9 = .ok (.if_icmp .gt 7, 3) := by decide +kernel
theorem dX1_knows_12 : decode cX1_knows 12 = .ok (.iconst 1, 1) := by decide +kernel
theorem dX1_knows_13 : decode cX1_knows 13 = .ok (.goto 4, 3) := by decide +kernel
theorem dX1_knows_16 : decode cX1_knows 16 = .ok (.iconst 0, 1) := by decide +kernel
theorem dX1_knows_17 : decode cX1_knows 17 = .ok (.ireturn, 1) := by decide +kernel
theorem dX1_judgeAll_0 : decode cX1_judgeAll 0 = .ok (.iconst 0, 1) := by decide +kernel
theorem dX1_judgeAll_1 : decode cX1_judgeAll 1 = .ok (.istore_n 2, 1) := by decide +kernel
theorem dX1_judgeAll_2 : decode cX1_judgeAll 2 = .ok (.iload_n 2, 1) := by decide +kernel
theorem dX1_judgeAll_3 : decode cX1_judgeAll 3 = .ok (.aload_n 0, 1) := by decide +kernel
theorem dX1_judgeAll_4 : decode cX1_judgeAll 4 = .ok (.getfield 26, 3) := by decide +kernel
theorem dX1_judgeAll_7 : decode cX1_judgeAll 7 = .ok (.if_icmp .ge 32, 3) := by decide +kernel
theorem dX1_judgeAll_10 : decode cX1_judgeAll 10 = .ok (.aload_n 0, 1) := by decide +kernel
theorem dX1_judgeAll_11 : decode cX1_judgeAll 11 = .ok (.getfield 11, 3) := by decide +kernel
theorem dX1_judgeAll_14 : decode cX1_judgeAll 14 = .ok (.iload_n 2, 1) := by decide +kernel
theorem dX1_judgeAll_15 : decode cX1_judgeAll 15 = .ok (.aaload, 1) := by decide +kernel
theorem dX1_judgeAll_16 : decode cX1_judgeAll 16 = .ok (.getfield 34, 3) := by decide +kernel
theorem dX1_judgeAll_19 : decode cX1_judgeAll 19 = .ok (.iconst (-1), 1) := by decide +kernel
theorem dX1_judgeAll_20 : decode cX1_judgeAll 20 = .ok (.if_icmp .ne 13, 3) := by decide +kernel
theorem dX1_judgeAll_23 : decode cX1_judgeAll 23 = .ok (.aload_n 0, 1) := by decide +kernel
theorem dX1_judgeAll_24 : decode cX1_judgeAll 24 = .ok (.getfield 11, 3) := by decide +kernel
theorem dX1_judgeAll_27 : decode cX1_judgeAll 27 = .ok (.iload_n 2, 1) := by decide +kernel
theorem dX1_judgeAll_28 : decode cX1_judgeAll 28 = .ok (.aaload, 1) := by decide +kernel
theorem dX1_judgeAll_29 : decode cX1_judgeAll 29 = .ok (.aload_n 1, 1) := by decide +kernel
theorem dX1_judgeAll_30 : decode cX1_judgeAll 30 = .ok (.invokevirtual 37, 3) := by decide +kernel
theorem dX1_judgeAll_33 : decode cX1_judgeAll 33 = .ok (.iinc 2 1, 3) := by decide +kernel
theorem dX1_judgeAll_36 : decode cX1_judgeAll 36 = .ok (.goto (-34), 3) := by decide +kernel
theorem dX1_judgeAll_39 : decode cX1_judgeAll 39 = .ok (.return_, 1) := by decide +kernel
theorem dX1_gather_0 : decode cX1_gather 0 = .ok (.aload_n 0, 1) := by decide +kernel
theorem dX1_gather_1 : decode cX1_gather 1 = .ok (.iload_n 1, 1) := by decide +kernel
theorem dX1_gather_2 : decode cX1_gather 2 = .ok (.invokevirtual 41, 3) := by decide +kernel
theorem dX1_gather_5 : decode cX1_gather 5 = .ok (.aload_n 0, 1) := by decide +kernel
theorem dX1_gather_6 : decode cX1_gather 6 = .ok (.iconst 0, 1) := by decide +kernel
theorem dX1_gather_7 : decode cX1_gather 7 = .ok (.putfield 45, 3) := by decide +kernel
theorem dX1_gather_10 : decode cX1_gather 10 = .ok (.iconst 0, 1) := by decide +kernel
theorem dX1_gather_11 : decode cX1_gather 11 = .ok (.istore_n 2, 1) := by decide +kernel
theorem dX1_gather_12 : decode cX1_gather 12 = .ok (.iload_n 2, 1) := by decide +kernel
theorem dX1_gather_13 : decode cX1_gather 13 = .ok (.iload_n 1, 1) := by decide +kernel
theorem dX1_gather_14 : decode cX1_gather 14 = .ok (.if_icmp .ge 70, 3) := by decide +kernel
theorem dX1_gather_17 : decode cX1_gather 17 = .ok (.iload_n 2, 1) := by decide +kernel
theorem dX1_gather_18 : decode cX1_gather 18 = .ok (.bipush 60, 2) := by decide +kernel
theorem dX1_gather_20 : decode cX1_gather 20 = .ok (.if_icmp .ge 64, 3) := by decide +kernel
theorem dX1_gather_23 : decode cX1_gather 23 = .ok (.aload_n 0, 1) := by decide +kernel
theorem dX1_gather_24 : decode cX1_gather 24 = .ok (.getfield 11, 3) := by decide +kernel
theorem dX1_gather_27 : decode cX1_gather 27 = .ok (.iload_n 2, 1) := by decide +kernel
theorem dX1_gather_28 : decode cX1_gather 28 = .ok (.aaload, 1) := by decide +kernel
theorem dX1_gather_29 : decode cX1_gather 29 = .ok (.getfield 34, 3) := by decide +kernel
theorem dX1_gather_32 : decode cX1_gather 32 = .ok (.iconst (-1), 1) := by decide +kernel
theorem dX1_gather_33 : decode cX1_gather 33 = .ok (.if_icmp .ne 45, 3) := by decide +kernel
theorem dX1_gather_36 : decode cX1_gather 36 = .ok (.aload_n 0, 1) := by decide +kernel
theorem dX1_gather_37 : decode cX1_gather 37 = .ok (.getfield 21, 3) := by decide +kernel
theorem dX1_gather_40 : decode cX1_gather 40 = .ok (.iload_n 2, 1) := by decide +kernel
theorem dX1_gather_41 : decode cX1_gather 41 = .ok (.baload, 1) := by decide +kernel
theorem dX1_gather_42 : decode cX1_gather 42 = .ok (.ifCond .ne 36, 3) := by decide +kernel
theorem dX1_gather_45 : decode cX1_gather 45 = .ok (.aload_n 0, 1) := by decide +kernel
theorem dX1_gather_46 : decode cX1_gather 46 = .ok (.getfield 11, 3) := by decide +kernel
theorem dX1_gather_49 : decode cX1_gather 49 = .ok (.iload_n 2, 1) := by decide +kernel
theorem dX1_gather_50 : decode cX1_gather 50 = .ok (.aaload, 1) := by decide +kernel
theorem dX1_gather_51 : decode cX1_gather 51 = .ok (.getfield 48, 3) := by decide +kernel
theorem dX1_gather_54 : decode cX1_gather 54 = .ok (.iconst (-1), 1) := by decide +kernel
theorem dX1_gather_55 : decode cX1_gather 55 = .ok (.if_icmp .eq 23, 3) := by decide +kernel
theorem dX1_gather_58 : decode cX1_gather 58 = .ok (.aload_n 0, 1) := by decide +kernel
theorem dX1_gather_59 : decode cX1_gather 59 = .ok (.getfield 17, 3) := by decide +kernel
theorem dX1_gather_62 : decode cX1_gather 62 = .ok (.aload_n 0, 1) := by decide +kernel
theorem dX1_gather_63 : decode cX1_gather 63 = .ok (.getfield 45, 3) := by decide +kernel
theorem dX1_gather_66 : decode cX1_gather 66 = .ok (.iload_n 2, 1) := by decide +kernel
theorem dX1_gather_67 : decode cX1_gather 67 = .ok (.iastore, 1) := by decide +kernel
theorem dX1_gather_68 : decode cX1_gather 68 = .ok (.aload_n 0, 1) := by decide +kernel
theorem dX1_gather_69 : decode cX1_gather 69 = .ok (.dup, 1) := by decide +kernel
theorem dX1_gather_70 : decode cX1_gather 70 = .ok (.getfield 45, 3) := by decide +kernel
theorem dX1_gather_73 : decode cX1_gather 73 = .ok (.iconst 1, 1) := by decide +kernel
theorem dX1_gather_74 : decode cX1_gather 74 = .ok (.iadd, 1) := by decide +kernel
theorem dX1_gather_75 : decode cX1_gather 75 = .ok (.putfield 45, 3) := by decide +kernel
theorem dX1_gather_78 : decode cX1_gather 78 = .ok (.iinc 2 1, 3) := by decide +kernel
theorem dX1_gather_81 : decode cX1_gather 81 = .ok (.goto (-69), 3) := by decide +kernel
theorem dX1_gather_84 : decode cX1_gather 84 = .ok (.return_, 1) := by decide +kernel
theorem dX1_findStruck_0 : decode cX1_findStruck 0 = .ok (.iload_n 1, 1) := by decide +kernel
theorem dX1_findStruck_1 : decode cX1_findStruck 1 = .ok (.bipush 60, 2) := by decide +kernel
theorem dX1_findStruck_3 : decode cX1_findStruck 3 = .ok (.invokestatic 51, 3) := by decide +kernel
theorem dX1_findStruck_6 : decode cX1_findStruck 6 = .ok (.istore_n 2, 1) := by decide +kernel
theorem dX1_findStruck_7 : decode cX1_findStruck 7 = .ok (.iconst 0, 1) := by decide +kernel
theorem dX1_findStruck_8 : decode cX1_findStruck 8 = .ok (.istore_n 3, 1) := by decide +kernel
theorem dX1_findStruck_9 : decode cX1_findStruck 9 = .ok (.iload_n 3, 1) := by decide +kernel
theorem dX1_findStruck_10 : decode cX1_findStruck 10 = .ok (.iload_n 2, 1) := by decide +kernel
theorem dX1_findStruck_11 : decode cX1_findStruck 11 = .ok (.if_icmp .ge 16, 3) := by decide +kernel
theorem dX1_findStruck_14 : decode cX1_findStruck 14 = .ok (.aload_n 0, 1) := by decide +kernel
theorem dX1_findStruck_15 : decode cX1_findStruck 15 = .ok (.getfield 21, 3) := by decide +kernel
theorem dX1_findStruck_18 : decode cX1_findStruck 18 = .ok (.iload_n 3, 1) := by decide +kernel
theorem dX1_findStruck_19 : decode cX1_findStruck 19 = .ok (.iconst 0, 1) := by decide +kernel
theorem dX1_findStruck_20 : decode cX1_findStruck 20 = .ok (.bastore, 1) := by decide +kernel
theorem dX1_findStruck_21 : decode cX1_findStruck 21 = .ok (.iinc 3 1, 3) := by decide +kernel
theorem dX1_findStruck_24 : decode cX1_findStruck 24 = .ok (.goto (-15), 3) := by decide +kernel
theorem dX1_findStruck_27 : decode cX1_findStruck 27 = .ok (.iload_n 2, 1) := by decide +kernel
theorem dX1_findStruck_28 : decode cX1_findStruck 28 = .ok (.iconst 1, 1) := by decide +kernel
theorem dX1_findStruck_29 : decode cX1_findStruck 29 = .ok (.isub, 1) := by decide +kernel
theorem dX1_findStruck_30 : decode cX1_findStruck 30 = .ok (.istore_n 3, 1) := by decide +kernel
theorem dX1_findStruck_31 : decode cX1_findStruck 31 = .ok (.iload_n 3, 1) := by decide +kernel
theorem dX1_findStruck_32 : decode cX1_findStruck 32 = .ok (.ifCond .lt 48, 3) := by decide +kernel
theorem dX1_findStruck_35 : decode cX1_findStruck 35 = .ok (.aload_n 0, 1) := by decide +kernel
theorem dX1_findStruck_36 : decode cX1_findStruck 36 = .ok (.getfield 11, 3) := by decide +kernel
theorem dX1_findStruck_39 : decode cX1_findStruck 39 = .ok (.iload_n 3, 1) := by decide +kernel
theorem dX1_findStruck_40 : decode cX1_findStruck 40 = .ok (.aaload, 1) := by decide +kernel
theorem dX1_findStruck_41 : decode cX1_findStruck 41 = .ok (.getfield 34, 3) := by decide +kernel
theorem dX1_findStruck_44 : decode cX1_findStruck 44 = .ok (.istore 4, 2) := by decide +kernel
theorem dX1_findStruck_46 : decode cX1_findStruck 46 = .ok (.iload 4, 2) := by decide +kernel
theorem dX1_findStruck_48 : decode cX1_findStruck 48 = .ok (.ifCond .lt 26, 3) := by decide +kernel
theorem dX1_findStruck_51 : decode cX1_findStruck 51 = .ok (.iload 4, 2) := by decide +kernel
theorem dX1_findStruck_53 : decode cX1_findStruck 53 = .ok (.iload_n 3, 1) := by decide +kernel
theorem dX1_findStruck_54 : decode cX1_findStruck 54 = .ok (.if_icmp .ge 20, 3) := by decide +kernel
theorem dX1_findStruck_57 : decode cX1_findStruck 57 = .ok (.aload_n 0, 1) := by decide +kernel
theorem dX1_findStruck_58 : decode cX1_findStruck 58 = .ok (.getfield 21, 3) := by decide +kernel
theorem dX1_findStruck_61 : decode cX1_findStruck 61 = .ok (.iload_n 3, 1) := by decide +kernel
theorem dX1_findStruck_62 : decode cX1_findStruck 62 = .ok (.baload, 1) := by decide +kernel
theorem dX1_findStruck_63 : decode cX1_findStruck 63 = .ok (.ifCond .ne 11, 3) := by decide +kernel
theorem dX1_findStruck_66 : decode cX1_findStruck 66 = .ok (.aload_n 0, 1) := by decide +kernel
theorem dX1_findStruck_67 : decode cX1_findStruck 67 = .ok (.getfield 21, 3) := by decide +kernel
theorem dX1_findStruck_70 : decode cX1_findStruck 70 = .ok (.iload 4, 2) := by decide +kernel
theorem dX1_findStruck_72 : decode cX1_findStruck 72 = .ok (.iconst 1, 1) := by decide +kernel
theorem dX1_findStruck_73 : decode cX1_findStruck 73 = .ok (.bastore, 1) := by decide +kernel
theorem dX1_findStruck_74 : decode cX1_findStruck 74 = .ok (.iinc 3 (-1), 3) := by decide +kernel
theorem dX1_findStruck_77 : decode cX1_findStruck 77 = .ok (.goto (-46), 3) := by decide +kernel
theorem dX1_findStruck_80 : decode cX1_findStruck 80 = .ok (.return_, 1) := by decide +kernel
theorem dX2_init_0 : decode cX2_init 0 = .ok (.aload_n 0, 1) := by decide +kernel
theorem dX2_init_1 : decode cX2_init 1 = .ok (.invokespecial 3, 3) := by decide +kernel
theorem dX2_init_4 : decode cX2_init 4 = .ok (.aload_n 0, 1) := by decide +kernel
theorem dX2_init_5 : decode cX2_init 5 = .ok (.sipush 192, 3) := by decide +kernel
theorem dX2_init_8 : decode cX2_init 8 = .ok (.newarray .int, 2) := by decide +kernel
theorem dX2_init_10 : decode cX2_init 10 = .ok (.putfield 9, 3) := by decide +kernel
theorem dX2_init_13 : decode cX2_init 13 = .ok (.aload_n 0, 1) := by decide +kernel
theorem dX2_init_14 : decode cX2_init 14 = .ok (.bipush 8, 2) := by decide +kernel
theorem dX2_init_16 : decode cX2_init 16 = .ok (.newarray .int, 2) := by decide +kernel
theorem dX2_init_18 : decode cX2_init 18 = .ok (.putfield 15, 3) := by decide +kernel
theorem dX2_init_21 : decode cX2_init 21 = .ok (.aload_n 0, 1) := by decide +kernel
theorem dX2_init_22 : decode cX2_init 22 = .ok (.bipush 8, 2) := by decide +kernel
theorem dX2_init_24 : decode cX2_init 24 = .ok (.newarray .int, 2) := by decide +kernel
theorem dX2_init_26 : decode cX2_init 26 = .ok (.putfield 18, 3) := by decide +kernel
theorem dX2_init_29 : decode cX2_init 29 = .ok (.aload_n 0, 1) := by decide +kernel
theorem dX2_init_30 : decode cX2_init 30 = .ok (.aload_n 1, 1) := by decide +kernel
theorem dX2_init_31 : decode cX2_init 31 = .ok (.putfield 21, 3) := by decide +kernel
theorem dX2_init_34 : decode cX2_init 34 = .ok (.aload_n 0, 1) := by decide +kernel
theorem dX2_init_35 : decode cX2_init 35 = .ok (.aload_n 2, 1) := by decide +kernel
theorem dX2_init_36 : decode cX2_init 36 = .ok (.putfield 25, 3) := by decide +kernel
theorem dX2_init_39 : decode cX2_init 39 = .ok (.return_, 1) := by decide +kernel
theorem dX2_resetReads_0 : decode cX2_resetReads 0 = .ok (.aload_n 0, 1) := by decide +kernel
theorem dX2_resetReads_1 : decode cX2_resetReads 1 = .ok (.iload_n 1, 1) := by decide +kernel
theorem dX2_resetReads_2 : decode cX2_resetReads 2 = .ok (.putfield 29, 3) := by decide +kernel
theorem dX2_resetReads_5 : decode cX2_resetReads 5 = .ok (.iconst 0, 1) := by decide +kernel
theorem dX2_resetReads_6 : decode cX2_resetReads 6 = .ok (.istore_n 2, 1) := by decide +kernel
theorem dX2_resetReads_7 : decode cX2_resetReads 7 = .ok (.iload_n 2, 1) := by decide +kernel
theorem dX2_resetReads_8 : decode cX2_resetReads 8 = .ok (.iconst 3, 1) := by decide +kernel
theorem dX2_resetReads_9 : decode cX2_resetReads 9 = .ok (.if_icmp .ge 63, 3) := by decide +kernel
theorem dX2_resetReads_12 : decode cX2_resetReads 12 = .ok (.iconst 0, 1) := by decide +kernel
theorem dX2_resetReads_13 : decode cX2_resetReads 13 = .ok (.istore_n 3, 1) := by decide +kernel
theorem dX2_resetReads_14 : decode cX2_resetReads 14 = .ok (.iload_n 3, 1) := by decide +kernel
theorem dX2_resetReads_15 : decode cX2_resetReads 15 = .ok (.bipush 8, 2) := by decide +kernel
theorem dX2_resetReads_17 : decode cX2_resetReads 17 = .ok (.if_icmp .ge 49, 3) := by decide +kernel
theorem dX2_resetReads_20 : decode cX2_resetReads 20 = .ok (.iconst 0, 1) := by decide +kernel
theorem dX2_resetReads_21 : decode cX2_resetReads 21 = .ok (.istore 4, 2) := by decide +kernel
theorem dX2_resetReads_23 : decode cX2_resetReads 23 = .ok (.iload 4, 2) := by decide +kernel
theorem dX2_resetReads_25 : decode cX2_resetReads 25 = .ok (.bipush 8, 2) := by decide +kernel
theorem dX2_resetReads_27 : decode cX2_resetReads 27 = .ok (.if_icmp .ge 33, 3) := by decide +kernel
theorem dX2_resetReads_30 : decode cX2_resetReads 30 = .ok (.aload_n 0, 1) := by decide +kernel
theorem dX2_resetReads_31 : decode cX2_resetReads 31 = .ok (.getfield 9, 3) := by decide +kernel
theorem dX2_resetReads_34 : decode cX2_resetReads 34 = .ok (.iload_n 2, 1) := by decide +kernel
theorem dX2_resetReads_35 : decode cX2_resetReads 35 = .ok (.iload_n 3, 1) := by decide +kernel
theorem dX2_resetReads_36 : decode cX2_resetReads 36 = .ok (.iload 4, 2) := by decide +kernel
theorem dX2_resetReads_38 : decode cX2_resetReads 38 = .ok (.invokestatic 33, 3) := by decide +kernel
theorem dX2_resetReads_41 : decode cX2_resetReads 41 = .ok (.iload_n 3, 1) := by decide +kernel
theorem dX2_resetReads_42 : decode cX2_resetReads 42 = .ok (.iload 4, 2) := by decide +kernel
theorem dX2_resetReads_44 : decode cX2_resetReads 44 = .ok (.if_icmp .ne 8, 3) := by decide +kernel
theorem dX2_resetReads_47 : decode cX2_resetReads 47 = .ok (.bipush 16, 2) := by decide +kernel
theorem dX2_resetReads_49 : decode cX2_resetReads 49 = .ok (.goto 4, 3) := by decide +kernel
theorem dX2_resetReads_52 : decode cX2_resetReads 52 = .ok (.iconst 0, 1) := by decide +kernel
theorem dX2_resetReads_53 : decode cX2_resetReads 53 = .ok (.iastore, 1) := by decide +kernel
theorem dX2_resetReads_54 : decode cX2_resetReads 54 = .ok (.iinc 4 1, 3) := by decide +kernel
theorem dX2_resetReads_57 : decode cX2_resetReads 57 = .ok (.goto (-34), 3) := by decide +kernel
theorem dX2_resetReads_60 : decode cX2_resetReads 60 = .ok (.iinc 3 1, 3) := by decide +kernel
theorem dX2_resetReads_63 : decode cX2_resetReads 63 = .ok (.goto (-49), 3) := by decide +kernel
theorem dX2_resetReads_66 : decode cX2_resetReads 66 = .ok (.iinc 2 1, 3) := by decide +kernel
theorem dX2_resetReads_69 : decode cX2_resetReads 69 = .ok (.goto (-62), 3) := by decide +kernel
theorem dX2_resetReads_72 : decode cX2_resetReads 72 = .ok (.return_, 1) := by decide +kernel
theorem dX2_noteRow_0 : decode cX2_noteRow 0 = .ok (.aload_n 0, 1) := by decide +kernel
theorem dX2_noteRow_1 : decode cX2_noteRow 1 = .ok (.getfield 15, 3) := by decide +kernel
theorem dX2_noteRow_4 : decode cX2_noteRow 4 = .ok (.iload_n 1, 1) := by decide +kernel
theorem dX2_noteRow_5 : decode cX2_noteRow 5 = .ok (.iload_n 2, 1) := by decide +kernel
theorem dX2_noteRow_6 : decode cX2_noteRow 6 = .ok (.ifCond .ge 7, 3) := by decide +kernel
theorem dX2_noteRow_9 : decode cX2_noteRow 9 = .ok (.iconst (-1), 1) := by decide +kernel
theorem dX2_noteRow_10 : decode cX2_noteRow 10 = .ok (.goto 7, 3) := by decide +kernel
theorem dX2_noteRow_13 : decode cX2_noteRow 13 = .ok (.iload_n 2, 1) := by decide +kernel
theorem dX2_noteRow_14 : decode cX2_noteRow 14 = .ok (.bipush 32, 2) := by decide +kernel
theorem dX2_noteRow_16 : decode cX2_noteRow 16 = .ok (.idiv, 1) := by decide +kernel
theorem dX2_noteRow_17 : decode cX2_noteRow 17 = .ok (.iastore, 1) := by decide +kernel
theorem dX2_noteRow_18 : decode cX2_noteRow 18 = .ok (.aload_n 0, 1) := by decide +kernel
theorem dX2_noteRow_19 : decode cX2_noteRow 19 = .ok (.getfield 15, 3) := by decide +kernel
theorem dX2_noteRow_22 : decode cX2_noteRow 22 = .ok (.iload_n 1, 1) := by decide +kernel
theorem dX2_noteRow_23 : decode cX2_noteRow 23 = .ok (.iconst 1, 1) := by decide +kernel
theorem dX2_noteRow_24 : decode cX2_noteRow 24 = .ok (.iadd, 1) := by decide +kernel
theorem dX2_noteRow_25 : decode cX2_noteRow 25 = .ok (.iload_n 2, 1) := by decide +kernel
theorem dX2_noteRow_26 : decode cX2_noteRow 26 = .ok (.ifCond .ge 7, 3) := by decide +kernel
theorem dX2_noteRow_29 : decode cX2_noteRow 29 = .ok (.iconst (-1), 1) := by decide +kernel
theorem dX2_noteRow_30 : decode cX2_noteRow 30 = .ok (.goto 7, 3) := by decide +kernel
theorem dX2_noteRow_33 : decode cX2_noteRow 33 = .ok (.iload_n 2, 1) := by decide +kernel
theorem dX2_noteRow_34 : decode cX2_noteRow 34 = .ok (.bipush 32, 2) := by decide +kernel
theorem dX2_noteRow_36 : decode cX2_noteRow 36 = .ok (.irem, 1) := by decide +kernel
theorem dX2_noteRow_37 : decode cX2_noteRow 37 = .ok (.iastore, 1) := by decide +kernel
theorem dX2_noteRow_38 : decode cX2_noteRow 38 = .ok (.return_, 1) := by decide +kernel
theorem dX2_takeRow_0 : decode cX2_takeRow 0 = .ok (.iconst 0, 1) := by decide +kernel
theorem dX2_takeRow_1 : decode cX2_takeRow 1 = .ok (.istore_n 3, 1) := by decide +kernel
theorem dX2_takeRow_2 : decode cX2_takeRow 2 = .ok (.iconst 0, 1) := by decide +kernel
theorem dX2_takeRow_3 : decode cX2_takeRow 3 = .ok (.istore 4, 2) := by decide +kernel
theorem dX2_takeRow_5 : decode cX2_takeRow 5 = .ok (.iload 4, 2) := by decide +kernel
theorem dX2_takeRow_7 : decode cX2_takeRow 7 = .ok (.bipush 8, 2) := by decide +kernel
theorem dX2_takeRow_9 : decode cX2_takeRow 9 = .ok (.if_icmp .ge 62, 3) := by decide +kernel
theorem dX2_takeRow_12 : decode cX2_takeRow 12 = .ok (.aload_n 0, 1) := by decide +kernel
theorem dX2_takeRow_13 : decode cX2_takeRow 13 = .ok (.getfield 15, 3) := by decide +kernel
theorem dX2_takeRow_16 : decode cX2_takeRow 16 = .ok (.iload 4, 2) := by decide +kernel
theorem dX2_takeRow_18 : decode cX2_takeRow 18 = .ok (.iaload, 1) := by decide +kernel
theorem dX2_takeRow_19 : decode cX2_takeRow 19 = .ok (.ifCond .lt 34, 3) := by decide +kernel
theorem dX2_takeRow_22 : decode cX2_takeRow 22 = .ok (.aload_n 0, 1) := by decide +kernel
theorem dX2_takeRow_23 : decode cX2_takeRow 23 = .ok (.getfield 15, 3) := by decide +kernel
theorem dX2_takeRow_26 : decode cX2_takeRow 26 = .ok (.iload 4, 2) := by decide +kernel
theorem dX2_takeRow_28 : decode cX2_takeRow 28 = .ok (.iaload, 1) := by decide +kernel
theorem dX2_takeRow_29 : decode cX2_takeRow 29 = .ok (.bipush 16, 2) := by decide +kernel
theorem dX2_takeRow_31 : decode cX2_takeRow 31 = .ok (.if_icmp .gt 22, 3) := by decide +kernel
theorem dX2_takeRow_34 : decode cX2_takeRow 34 = .ok (.iload 4, 2) := by decide +kernel
theorem dX2_takeRow_36 : decode cX2_takeRow 36 = .ok (.aload_n 0, 1) := by decide +kernel
theorem dX2_takeRow_37 : decode cX2_takeRow 37 = .ok (.getfield 29, 3) := by decide +kernel
theorem dX2_takeRow_40 : decode cX2_takeRow 40 = .ok (.if_icmp .lt 15, 3) := by decide +kernel
theorem dX2_takeRow_43 : decode cX2_takeRow 43 = .ok (.aload_n 0, 1) := by decide +kernel
theorem dX2_takeRow_44 : decode cX2_takeRow 44 = .ok (.getfield 15, 3) := by decide +kernel
theorem dX2_takeRow_47 : decode cX2_takeRow 47 = .ok (.iload 4, 2) := by decide +kernel
theorem dX2_takeRow_49 : decode cX2_takeRow 49 = .ok (.iaload, 1) := by decide +kernel
theorem dX2_takeRow_50 : decode cX2_takeRow 50 = .ok (.ifCond .eq 5, 3) := by decide +kernel
theorem dX2_takeRow_53 : decode cX2_takeRow 53 = .ok (.iconst 0, 1) := by decide +kernel
theorem dX2_takeRow_54 : decode cX2_takeRow 54 = .ok (.ireturn, 1) := by decide +kernel
theorem dX2_takeRow_55 : decode cX2_takeRow 55 = .ok (.iload_n 3, 1) := by decide +kernel
theorem dX2_takeRow_56 : decode cX2_takeRow 56 = .ok (.aload_n 0, 1) := by decide +kernel
theorem dX2_takeRow_57 : decode cX2_takeRow 57 = .ok (.getfield 15, 3) := by decide +kernel
theorem dX2_takeRow_60 : decode cX2_takeRow 60 = .ok (.iload 4, 2) := by decide +kernel
theorem dX2_takeRow_62 : decode cX2_takeRow 62 = .ok (.iaload, 1) := by decide +kernel
theorem dX2_takeRow_63 : decode cX2_takeRow 63 = .ok (.iadd, 1) := by decide +kernel
theorem dX2_takeRow_64 : decode cX2_takeRow 64 = .ok (.istore_n 3, 1) := by decide +kernel
theorem dX2_takeRow_65 : decode cX2_takeRow 65 = .ok (.iinc 4 1, 3) := by decide +kernel
theorem dX2_takeRow_68 : decode cX2_takeRow 68 = .ok (.goto (-63), 3) := by decide +kernel
theorem dX2_takeRow_71 : decode cX2_takeRow 71 = .ok (.iload_n 3, 1) := by decide +kernel
theorem dX2_takeRow_72 : decode cX2_takeRow 72 = .ok (.bipush 16, 2) := by decide +kernel
theorem dX2_takeRow_74 : decode cX2_takeRow 74 = .ok (.if_icmp .eq 5, 3) := by decide +kernel
theorem dX2_takeRow_77 : decode cX2_takeRow 77 = .ok (.iconst 0, 1) := by decide +kernel
theorem dX2_takeRow_78 : decode cX2_takeRow 78 = .ok (.ireturn, 1) := by decide +kernel
theorem dX2_takeRow_79 : decode cX2_takeRow 79 = .ok (.iconst 0, 1) := by decide +kernel
theorem dX2_takeRow_80 : decode cX2_takeRow 80 = .ok (.istore 4, 2) := by decide +kernel
theorem dX2_takeRow_82 : decode cX2_takeRow 82 = .ok (.iload 4, 2) := by decide +kernel
theorem dX2_takeRow_84 : decode cX2_takeRow 84 = .ok (.bipush 8, 2) := by decide +kernel
theorem dX2_takeRow_86 : decode cX2_takeRow 86 = .ok (.if_icmp .ge 28, 3) := by decide +kernel
theorem dX2_takeRow_89 : decode cX2_takeRow 89 = .ok (.aload_n 0, 1) := by decide +kernel
theorem dX2_takeRow_90 : decode cX2_takeRow 90 = .ok (.getfield 9, 3) := by decide +kernel
theorem dX2_takeRow_93 : decode cX2_takeRow 93 = .ok (.iload_n 1, 1) := by decide +kernel
theorem dX2_takeRow_94 : decode cX2_takeRow 94 = .ok (.iload_n 2, 1) := by decide +kernel
theorem dX2_takeRow_95 : decode cX2_takeRow 95 = .ok (.iload 4, 2) := by decide +kernel
theorem dX2_takeRow_97 : decode cX2_takeRow 97 = .ok (.invokestatic 33, 3) := by decide +kernel
theorem dX2_takeRow_100 : decode cX2_takeRow 100 = .ok (.aload_n 0, 1) := by decide +kernel
theorem dX2_takeRow_101 : decode cX2_takeRow 101 = .ok (.getfield 15, 3) := by decide +kernel
theorem dX2_takeRow_104 : decode cX2_takeRow 104 = .ok (.iload 4, 2) := by decide +kernel
theorem dX2_takeRow_106 : decode cX2_takeRow 106 = .ok (.iaload, 1) := by decide +kernel
theorem dX2_takeRow_107 : decode cX2_takeRow 107 = .ok (.iastore, 1) := by decide +kernel
theorem dX2_takeRow_108 : decode cX2_takeRow 108 = .ok (.iinc 4 1, 3) := by decide +kernel
theorem dX2_takeRow_111 : decode cX2_takeRow 111 = .ok (.goto (-29), 3) := by decide +kernel
theorem dX2_takeRow_114 : decode cX2_takeRow 114 = .ok (.iconst 1, 1) := by decide +kernel
theorem dX2_takeRow_115 : decode cX2_takeRow 115 = .ok (.ireturn, 1) := by decide +kernel
theorem dX2_weigh_0 : decode cX2_weigh 0 = .ok (.iconst 0, 1) := by decide +kernel
theorem dX2_weigh_1 : decode cX2_weigh 1 = .ok (.istore_n 3, 1) := by decide +kernel
theorem dX2_weigh_2 : decode cX2_weigh 2 = .ok (.iload_n 3, 1) := by decide +kernel
theorem dX2_weigh_3 : decode cX2_weigh 3 = .ok (.aload_n 0, 1) := by decide +kernel
theorem dX2_weigh_4 : decode cX2_weigh 4 = .ok (.getfield 29, 3) := by decide +kernel
theorem dX2_weigh_7 : decode cX2_weigh 7 = .ok (.if_icmp .ge 16, 3) := by decide +kernel
theorem dX2_weigh_10 : decode cX2_weigh 10 = .ok (.aload_n 0, 1) := by decide +kernel
theorem dX2_weigh_11 : decode cX2_weigh 11 = .ok (.getfield 18, 3) := by decide +kernel
theorem dX2_weigh_14 : decode cX2_weigh 14 = .ok (.iload_n 3, 1) := by decide +kernel
theorem dX2_weigh_15 : decode cX2_weigh 15 = .ok (.iconst 1, 1) := by decide +kernel
theorem dX2_weigh_16 : decode cX2_weigh 16 = .ok (.iastore, 1) := by decide +kernel
theorem dX2_weigh_17 : decode cX2_weigh 17 = .ok (.iinc 3 1, 3) := by decide +kernel
theorem dX2_weigh_20 : decode cX2_weigh 20 = .ok (.goto (-18), 3) := by decide +kernel
theorem dX2_weigh_23 : decode cX2_weigh 23 = .ok (.iconst 0, 1) := by decide +kernel
theorem dX2_weigh_24 : decode cX2_weigh 24 = .ok (.istore_n 3, 1) := by decide +kernel
theorem dX2_weigh_25 : decode cX2_weigh 25 = .ok (.iload_n 3, 1) := by decide +kernel
theorem dX2_weigh_26 : decode cX2_weigh 26 = .ok (.aload_n 0, 1) := by decide +kernel
theorem dX2_weigh_27 : decode cX2_weigh 27 = .ok (.getfield 25, 3) := by decide +kernel
theorem dX2_weigh_30 : decode cX2_weigh 30 = .ok (.getfield 37, 3) := by decide +kernel
theorem dX2_weigh_33 : decode cX2_weigh 33 = .ok (.if_icmp .ge 36, 3) := by decide +kernel
theorem dX2_weigh_36 : decode cX2_weigh 36 = .ok (.iload_n 3, 1) := by decide +kernel
theorem dX2_weigh_37 : decode cX2_weigh 37 = .ok (.iload_n 2, 1) := by decide +kernel
theorem dX2_weigh_38 : decode cX2_weigh 38 = .ok (.if_icmp .eq 25, 3) := by decide +kernel
theorem dX2_weigh_41 : decode cX2_weigh 41 = .ok (.aload_n 0, 1) := by decide +kernel
theorem dX2_weigh_42 : decode cX2_weigh 42 = .ok (.iload_n 1, 1) := by decide +kernel
theorem dX2_weigh_43 : decode cX2_weigh 43 = .ok (.aload_n 0, 1) := by decide +kernel
theorem dX2_weigh_44 : decode cX2_weigh 44 = .ok (.getfield 25, 3) := by decide +kernel
theorem dX2_weigh_47 : decode cX2_weigh 47 = .ok (.getfield 42, 3) := by decide +kernel
theorem dX2_weigh_50 : decode cX2_weigh 50 = .ok (.aload_n 0, 1) := by decide +kernel
theorem dX2_weigh_51 : decode cX2_weigh 51 = .ok (.getfield 25, 3) := by decide +kernel
theorem dX2_weigh_54 : decode cX2_weigh 54 = .ok (.getfield 46, 3) := by decide +kernel
theorem dX2_weigh_57 : decode cX2_weigh 57 = .ok (.iload_n 3, 1) := by decide +kernel
theorem dX2_weigh_58 : decode cX2_weigh 58 = .ok (.iaload, 1) := by decide +kernel
theorem dX2_weigh_59 : decode cX2_weigh 59 = .ok (.aaload, 1) := by decide +kernel
theorem dX2_weigh_60 : decode cX2_weigh 60 = .ok (.invokevirtual 49, 3) := by decide +kernel
theorem dX2_weigh_63 : decode cX2_weigh 63 = .ok (.iinc 3 1, 3) := by decide +kernel
theorem dX2_weigh_66 : decode cX2_weigh 66 = .ok (.goto (-41), 3) := by decide +kernel
theorem dX2_weigh_69 : decode cX2_weigh 69 = .ok (.aload_n 0, 1) := by decide +kernel
theorem dX2_weigh_70 : decode cX2_weigh 70 = .ok (.iconst 0, 1) := by decide +kernel
theorem dX2_weigh_71 : decode cX2_weigh 71 = .ok (.putfield 53, 3) := by decide +kernel
theorem dX2_weigh_74 : decode cX2_weigh 74 = .ok (.aload_n 0, 1) := by decide +kernel
theorem dX2_weigh_75 : decode cX2_weigh 75 = .ok (.iconst 0, 1) := by decide +kernel
theorem dX2_weigh_76 : decode cX2_weigh 76 = .ok (.putfield 56, 3) := by decide +kernel
theorem dX2_weigh_79 : decode cX2_weigh 79 = .ok (.iconst 0, 1) := by decide +kernel
theorem dX2_weigh_80 : decode cX2_weigh 80 = .ok (.istore_n 3, 1) := by decide +kernel
theorem dX2_weigh_81 : decode cX2_weigh 81 = .ok (.iload_n 3, 1) := by decide +kernel
theorem dX2_weigh_82 : decode cX2_weigh 82 = .ok (.aload_n 0, 1) := by decide +kernel
theorem dX2_weigh_83 : decode cX2_weigh 83 = .ok (.getfield 29, 3) := by decide +kernel
theorem dX2_weigh_86 : decode cX2_weigh 86 = .ok (.if_icmp .ge 54, 3) := by decide +kernel
theorem dX2_weigh_89 : decode cX2_weigh 89 = .ok (.aload_n 0, 1) := by decide +kernel
theorem dX2_weigh_90 : decode cX2_weigh 90 = .ok (.dup, 1) := by decide +kernel
theorem dX2_weigh_91 : decode cX2_weigh 91 = .ok (.getfield 53, 3) := by decide +kernel
theorem dX2_weigh_94 : decode cX2_weigh 94 = .ok (.aload_n 0, 1) := by decide +kernel
theorem dX2_weigh_95 : decode cX2_weigh 95 = .ok (.getfield 18, 3) := by decide +kernel
theorem dX2_weigh_98 : decode cX2_weigh 98 = .ok (.iload_n 3, 1) := by decide +kernel
theorem dX2_weigh_99 : decode cX2_weigh 99 = .ok (.iaload, 1) := by decide +kernel
theorem dX2_weigh_100 : decode cX2_weigh 100 = .ok (.iadd, 1) := by decide +kernel
theorem dX2_weigh_101 : decode cX2_weigh 101 = .ok (.putfield 53, 3) := by decide +kernel
theorem dX2_weigh_104 : decode cX2_weigh 104 = .ok (.aload_n 0, 1) := by decide +kernel
theorem dX2_weigh_105 : decode cX2_weigh 105 = .ok (.aload_n 0, 1) := by decide +kernel
theorem dX2_weigh_106 : decode cX2_weigh 106 = .ok (.getfield 18, 3) := by decide +kernel
theorem dX2_weigh_109 : decode cX2_weigh 109 = .ok (.iload_n 3, 1) := by decide +kernel
theorem dX2_weigh_110 : decode cX2_weigh 110 = .ok (.iaload, 1) := by decide +kernel
theorem dX2_weigh_111 : decode cX2_weigh 111 = .ok (.aload_n 0, 1) := by decide +kernel
theorem dX2_weigh_112 : decode cX2_weigh 112 = .ok (.getfield 18, 3) := by decide +kernel
theorem dX2_weigh_115 : decode cX2_weigh 115 = .ok (.aload_n 0, 1) := by decide +kernel
theorem dX2_weigh_116 : decode cX2_weigh 116 = .ok (.getfield 56, 3) := by decide +kernel
theorem dX2_weigh_119 : decode cX2_weigh 119 = .ok (.iaload, 1) := by decide +kernel
theorem dX2_weigh_120 : decode cX2_weigh 120 = .ok (.if_icmp .le 7, 3) := by decide +kernel
theorem dX2_weigh_123 : decode cX2_weigh 123 = .ok (.iload_n 3, 1) := by decide +kernel
theorem dX2_weigh_124 : decode cX2_weigh 124 = .ok (.goto 7, 3) := by decide +kernel
theorem dX2_weigh_127 : decode cX2_weigh 127 = .ok (.aload_n 0, 1) := by decide +kernel
theorem dX2_weigh_128 : decode cX2_weigh 128 = .ok (.getfield 56, 3) := by decide +kernel
theorem dX2_weigh_131 : decode cX2_weigh 131 = .ok (.putfield 56, 3) := by decide +kernel
theorem dX2_weigh_134 : decode cX2_weigh 134 = .ok (.iinc 3 1, 3) := by decide +kernel
theorem dX2_weigh_137 : decode cX2_weigh 137 = .ok (.goto (-56), 3) := by decide +kernel
theorem dX2_weigh_140 : decode cX2_weigh 140 = .ok (.return_, 1) := by decide +kernel
theorem dX2_partsOf_0 : decode cX2_partsOf 0 = .ok (.aload_n 0, 1) := by decide +kernel
theorem dX2_partsOf_1 : decode cX2_partsOf 1 = .ok (.getfield 53, 3) := by decide +kernel
theorem dX2_partsOf_4 : decode cX2_partsOf 4 = .ok (.ifCond .le 21, 3) := by decide +kernel
theorem dX2_partsOf_7 : decode cX2_partsOf 7 = .ok (.sipush 1000, 3) := by decide +kernel
theorem dX2_partsOf_10 : decode cX2_partsOf 10 = .ok (.aload_n 0, 1) := by decide +kernel
theorem dX2_partsOf_11 : decode cX2_partsOf 11 = .ok (.getfield 18, 3) := by decide +kernel
theorem dX2_partsOf_14 : decode cX2_partsOf 14 = .ok (.iload_n 1, 1) := by decide +kernel
theorem dX2_partsOf_15 : decode cX2_partsOf 15 = .ok (.iaload, 1) := by decide +kernel
theorem dX2_partsOf_16 : decode cX2_partsOf 16 = .ok (.imul, 1) := by decide +kernel
theorem dX2_partsOf_17 : decode cX2_partsOf 17 = .ok (.aload_n 0, 1) := by decide +kernel
theorem dX2_partsOf_18 : decode cX2_partsOf 18 = .ok (.getfield 53, 3) := by decide +kernel
theorem dX2_partsOf_21 : decode cX2_partsOf 21 = .ok (.idiv, 1) := by decide +kernel
theorem dX2_partsOf_22 : decode cX2_partsOf 22 = .ok (.goto 4, 3) := by decide +kernel
theorem dX2_partsOf_25 : decode cX2_partsOf 25 = .ok (.iconst 0, 1) := by decide +kernel
theorem dX2_partsOf_26 : decode cX2_partsOf 26 = .ok (.ireturn, 1) := by decide +kernel
theorem dX2_doubt_0 : decode cX2_doubt 0 = .ok (.sipush 1000, 3) := by decide +kernel
theorem dX2_doubt_3 : decode cX2_doubt 3 = .ok (.aload_n 0, 1) := by decide +kernel
theorem dX2_doubt_4 : decode cX2_doubt 4 = .ok (.aload_n 0, 1) := by decide +kernel
theorem dX2_doubt_5 : decode cX2_doubt 5 = .ok (.getfield 56, 3) := by decide +kernel
theorem dX2_doubt_8 : decode cX2_doubt 8 = .ok (.invokevirtual 59, 3) := by decide +kernel
theorem dX2_doubt_11 : decode cX2_doubt 11 = .ok (.isub, 1) := by decide +kernel
theorem dX2_doubt_12 : decode cX2_doubt 12 = .ok (.ireturn, 1) := by decide +kernel
theorem dX2_addBore_0 : decode cX2_addBore 0 = .ok (.aload_n 0, 1) := by decide +kernel
theorem dX2_addBore_1 : decode cX2_addBore 1 = .ok (.getfield 21, 3) := by decide +kernel
theorem dX2_addBore_4 : decode cX2_addBore 4 = .ok (.iload_n 1, 1) := by decide +kernel
theorem dX2_addBore_5 : decode cX2_addBore 5 = .ok (.aload_n 2, 1) := by decide +kernel
theorem dX2_addBore_6 : decode cX2_addBore 6 = .ok (.getfield 63, 3) := by decide +kernel
theorem dX2_addBore_9 : decode cX2_addBore 9 = .ok (.invokevirtual 68, 3) := by decide +kernel
theorem dX2_addBore_12 : decode cX2_addBore 12 = .ok (.istore_n 3, 1) := by decide +kernel
theorem dX2_addBore_13 : decode cX2_addBore 13 = .ok (.iconst 0, 1) := by decide +kernel
theorem dX2_addBore_14 : decode cX2_addBore 14 = .ok (.istore 4, 2) := by decide +kernel
theorem dX2_addBore_16 : decode cX2_addBore 16 = .ok (.iload 4, 2) := by decide +kernel
theorem dX2_addBore_18 : decode cX2_addBore 18 = .ok (.aload_n 0, 1) := by decide +kernel
theorem dX2_addBore_19 : decode cX2_addBore 19 = .ok (.getfield 29, 3) := by decide +kernel
theorem dX2_addBore_22 : decode cX2_addBore 22 = .ok (.if_icmp .ge 39, 3) := by decide +kernel
theorem dX2_addBore_25 : decode cX2_addBore 25 = .ok (.aload_n 0, 1) := by decide +kernel
theorem dX2_addBore_26 : decode cX2_addBore 26 = .ok (.getfield 18, 3) := by decide +kernel
theorem dX2_addBore_29 : decode cX2_addBore 29 = .ok (.iload 4, 2) := by decide +kernel
theorem dX2_addBore_31 : decode cX2_addBore 31 = .ok (.dup2, 1) := by decide +kernel
theorem dX2_addBore_32 : decode cX2_addBore 32 = .ok (.iaload, 1) := by decide +kernel
theorem dX2_addBore_33 : decode cX2_addBore 33 = .ok (.iload_n 3, 1) := by decide +kernel
theorem dX2_addBore_34 : decode cX2_addBore 34 = .ok (.aload_n 0, 1) := by decide +kernel
theorem dX2_addBore_35 : decode cX2_addBore 35 = .ok (.getfield 9, 3) := by decide +kernel
theorem dX2_addBore_38 : decode cX2_addBore 38 = .ok (.aload_n 2, 1) := by decide +kernel
theorem dX2_addBore_39 : decode cX2_addBore 39 = .ok (.getfield 74, 3) := by decide +kernel
theorem dX2_addBore_42 : decode cX2_addBore 42 = .ok (.iload 4, 2) := by decide +kernel
theorem dX2_addBore_44 : decode cX2_addBore 44 = .ok (.aload_n 2, 1) := by decide +kernel
theorem dX2_addBore_45 : decode cX2_addBore 45 = .ok (.getfield 77, 3) := by decide +kernel
theorem dX2_addBore_48 : decode cX2_addBore 48 = .ok (.invokestatic 33, 3) := by decide +kernel
theorem dX2_addBore_51 : decode cX2_addBore 51 = .ok (.iaload, 1) := by decide +kernel
theorem dX2_addBore_52 : decode cX2_addBore 52 = .ok (.imul, 1) := by decide +kernel
theorem dX2_addBore_53 : decode cX2_addBore 53 = .ok (.iadd, 1) := by decide +kernel
theorem dX2_addBore_54 : decode cX2_addBore 54 = .ok (.iastore, 1) := by decide +kernel
theorem dX2_addBore_55 : decode cX2_addBore 55 = .ok (.iinc 4 1, 3) := by decide +kernel
theorem dX2_addBore_58 : decode cX2_addBore 58 = .ok (.goto (-42), 3) := by decide +kernel
theorem dX2_addBore_61 : decode cX2_addBore 61 = .ok (.return_, 1) := by decide +kernel
theorem dX2_place_0 : decode cX2_place 0 = .ok (.iload_n 0, 1) := by decide +kernel
theorem dX2_place_1 : decode cX2_place 1 = .ok (.bipush 8, 2) := by decide +kernel
theorem dX2_place_3 : decode cX2_place 3 = .ok (.imul, 1) := by decide +kernel
theorem dX2_place_4 : decode cX2_place 4 = .ok (.iload_n 1, 1) := by decide +kernel
theorem dX2_place_5 : decode cX2_place 5 = .ok (.iadd, 1) := by decide +kernel
theorem dX2_place_6 : decode cX2_place 6 = .ok (.bipush 8, 2) := by decide +kernel
theorem dX2_place_8 : decode cX2_place 8 = .ok (.imul, 1) := by decide +kernel
theorem dX2_place_9 : decode cX2_place 9 = .ok (.iload_n 2, 1) := by decide +kernel
theorem dX2_place_10 : decode cX2_place 10 = .ok (.iadd, 1) := by decide +kernel
theorem dX2_place_11 : decode cX2_place 11 = .ok (.ireturn, 1) := by decide +kernel
theorem dX3_init_0 : decode cX3_init 0 = .ok (.aload_n 0, 1) := by decide +kernel
theorem dX3_init_1 : decode cX3_init 1 = .ok (.invokespecial 3, 3) := by decide +kernel
theorem dX3_init_4 : decode cX3_init 4 = .ok (.aload_n 0, 1) := by decide +kernel
theorem dX3_init_5 : decode cX3_init 5 = .ok (.sipush 300, 3) := by decide +kernel
theorem dX3_init_8 : decode cX3_init 8 = .ok (.putfield 9, 3) := by decide +kernel
theorem dX3_init_11 : decode cX3_init 11 = .ok (.aload_n 0, 1) := by decide +kernel
theorem dX3_init_12 : decode cX3_init 12 = .ok (.bipush 100, 2) := by decide +kernel
theorem dX3_init_14 : decode cX3_init 14 = .ok (.putfield 15, 3) := by decide +kernel
theorem dX3_init_17 : decode cX3_init 17 = .ok (.aload_n 0, 1) := by decide +kernel
theorem dX3_init_18 : decode cX3_init 18 = .ok (.bipush 8, 2) := by decide +kernel
theorem dX3_init_20 : decode cX3_init 20 = .ok (.bipush 8, 2) := by decide +kernel
theorem dX3_init_22 : decode cX3_init 22 = .ok (.multianewarray 18 2, 4) := by decide +kernel
theorem dX3_init_26 : decode cX3_init 26 = .ok (.putfield 20, 3) := by decide +kernel
theorem dX3_init_29 : decode cX3_init 29 = .ok (.aload_n 0, 1) := by decide +kernel
theorem dX3_init_30 : decode cX3_init 30 = .ok (.bipush 8, 2) := by decide +kernel
theorem dX3_init_32 : decode cX3_init 32 = .ok (.newarray .int, 2) := by decide +kernel
theorem dX3_init_34 : decode cX3_init 34 = .ok (.putfield 23, 3) := by decide +kernel
theorem dX3_init_37 : decode cX3_init 37 = .ok (.aload_n 0, 1) := by decide +kernel
theorem dX3_init_38 : decode cX3_init 38 = .ok (.bipush 8, 2) := by decide +kernel
theorem dX3_init_40 : decode cX3_init 40 = .ok (.newarray .int, 2) := by decide +kernel
theorem dX3_init_42 : decode cX3_init 42 = .ok (.putfield 27, 3) := by decide +kernel
theorem dX3_init_45 : decode cX3_init 45 = .ok (.aload_n 0, 1) := by decide +kernel
theorem dX3_init_46 : decode cX3_init 46 = .ok (.aload_n 1, 1) := by decide +kernel
theorem dX3_init_47 : decode cX3_init 47 = .ok (.putfield 30, 3) := by decide +kernel
theorem dX3_init_50 : decode cX3_init 50 = .ok (.aload_n 0, 1) := by decide +kernel
theorem dX3_init_51 : decode cX3_init 51 = .ok (.aload_n 2, 1) := by decide +kernel
theorem dX3_init_52 : decode cX3_init 52 = .ok (.putfield 34, 3) := by decide +kernel
theorem dX3_init_55 : decode cX3_init 55 = .ok (.return_, 1) := by decide +kernel
theorem dX3_drawLine_0 : decode cX3_drawLine 0 = .ok (.iload_n 1, 1) := by decide +kernel
theorem dX3_drawLine_1 : decode cX3_drawLine 1 = .ok (.ifCond .eq 7, 3) := by decide +kernel
theorem dX3_drawLine_4 : decode cX3_drawLine 4 = .ok (.iload_n 2, 1) := by decide +kernel
theorem dX3_drawLine_5 : decode cX3_drawLine 5 = .ok (.goto 12, 3) := by decide +kernel
theorem dX3_drawLine_8 : decode cX3_drawLine 8 = .ok (.iload_n 2, 1) := by decide +kernel
theorem dX3_drawLine_9 : decode cX3_drawLine 9 = .ok (.aload_n 0, 1) := by decide +kernel
theorem dX3_drawLine_10 : decode cX3_drawLine 10 = .ok (.getfield 30, 3) := by decide +kernel
theorem dX3_drawLine_13 : decode cX3_drawLine 13 = .ok (.getfield 38, 3) := by decide +kernel
theorem dX3_drawLine_16 : decode cX3_drawLine 16 = .ok (.imul, 1) := by decide +kernel
theorem dX3_drawLine_17 : decode cX3_drawLine 17 = .ok (.istore_n 3, 1) := by decide +kernel
theorem dX3_drawLine_18 : decode cX3_drawLine 18 = .ok (.iload_n 1, 1) := by decide +kernel
theorem dX3_drawLine_19 : decode cX3_drawLine 19 = .ok (.ifCond .eq 13, 3) := by decide +kernel
theorem dX3_drawLine_22 : decode cX3_drawLine 22 = .ok (.aload_n 0, 1) := by decide +kernel
theorem dX3_drawLine_23 : decode cX3_drawLine 23 = .ok (.getfield 30, 3) := by decide +kernel
theorem dX3_drawLine_26 : decode cX3_drawLine 26 = .ok (.getfield 38, 3) := by decide +kernel
theorem dX3_drawLine_29 : decode cX3_drawLine 29 = .ok (.goto 4, 3) := by decide +kernel
theorem dX3_drawLine_32 : decode cX3_drawLine 32 = .ok (.iconst 1, 1) := by decide +kernel
theorem dX3_drawLine_33 : decode cX3_drawLine 33 = .ok (.istore 4, 2) := by decide +kernel
theorem dX3_drawLine_35 : decode cX3_drawLine 35 = .ok (.aload_n 0, 1) := by decide +kernel
theorem dX3_drawLine_36 : decode cX3_drawLine 36 = .ok (.iload_n 1, 1) := by decide +kernel
theorem dX3_drawLine_37 : decode cX3_drawLine 37 = .ok (.ifCond .eq 13, 3) := by decide +kernel
theorem dX3_drawLine_40 : decode cX3_drawLine 40 = .ok (.aload_n 0, 1) := by decide +kernel
theorem dX3_drawLine_41 : decode cX3_drawLine 41 = .ok (.getfield 30, 3) := by decide +kernel
theorem dX3_drawLine_44 : decode cX3_drawLine 44 = .ok (.getfield 43, 3) := by decide +kernel
theorem dX3_drawLine_47 : decode cX3_drawLine 47 = .ok (.goto 10, 3) := by decide +kernel
theorem dX3_drawLine_50 : decode cX3_drawLine 50 = .ok (.aload_n 0, 1) := by decide +kernel
theorem dX3_drawLine_51 : decode cX3_drawLine 51 = .ok (.getfield 30, 3) := by decide +kernel
theorem dX3_drawLine_54 : decode cX3_drawLine 54 = .ok (.getfield 38, 3) := by decide +kernel
theorem dX3_drawLine_57 : decode cX3_drawLine 57 = .ok (.putfield 46, 3) := by decide +kernel
theorem dX3_drawLine_60 : decode cX3_drawLine 60 = .ok (.aload_n 0, 1) := by decide +kernel
theorem dX3_drawLine_61 : decode cX3_drawLine 61 = .ok (.getfield 46, 3) := by decide +kernel
theorem dX3_drawLine_64 : decode cX3_drawLine 64 = .ok (.iconst 1, 1) := by decide +kernel
theorem dX3_drawLine_65 : decode cX3_drawLine 65 = .ok (.isub, 1) := by decide +kernel
theorem dX3_drawLine_66 : decode cX3_drawLine 66 = .ok (.istore 5, 2) := by decide +kernel
theorem dX3_drawLine_68 : decode cX3_drawLine 68 = .ok (.iload 5, 2) := by decide +kernel
theorem dX3_drawLine_70 : decode cX3_drawLine 70 = .ok (.ifCond .lt 163, 3) := by decide +kernel
theorem dX3_drawLine_73 : decode cX3_drawLine 73 = .ok (.iload_n 3, 1) := by decide +kernel
theorem dX3_drawLine_74 : decode cX3_drawLine 74 = .ok (.iload 5, 2) := by decide +kernel
theorem dX3_drawLine_76 : decode cX3_drawLine 76 = .ok (.iload 4, 2) := by decide +kernel
theorem dX3_drawLine_78 : decode cX3_drawLine 78 = .ok (.imul, 1) := by decide +kernel
theorem dX3_drawLine_79 : decode cX3_drawLine 79 = .ok (.iadd, 1) := by decide +kernel
theorem dX3_drawLine_80 : decode cX3_drawLine 80 = .ok (.istore 6, 2) := by decide +kernel
theorem dX3_drawLine_82 : decode cX3_drawLine 82 = .ok (.iload 5, 2) := by decide +kernel
theorem dX3_drawLine_84 : decode cX3_drawLine 84 = .ok (.aload_n 0, 1) := by decide +kernel
theorem dX3_drawLine_85 : decode cX3_drawLine 85 = .ok (.getfield 46, 3) := by decide +kernel
theorem dX3_drawLine_88 : decode cX3_drawLine 88 = .ok (.iconst 1, 1) := by decide +kernel
theorem dX3_drawLine_89 : decode cX3_drawLine 89 = .ok (.isub, 1) := by decide +kernel
theorem dX3_drawLine_90 : decode cX3_drawLine 90 = .ok (.if_icmp .ne 7, 3) := by decide +kernel
theorem dX3_drawLine_93 : decode cX3_drawLine 93 = .ok (.iconst 1, 1) := by decide +kernel
theorem dX3_drawLine_94 : decode cX3_drawLine 94 = .ok (.goto 4, 3) := by decide +kernel
theorem dX3_drawLine_97 : decode cX3_drawLine 97 = .ok (.iconst 0, 1) := by decide +kernel
theorem dX3_drawLine_98 : decode cX3_drawLine 98 = .ok (.istore 7, 2) := by decide +kernel
theorem dX3_drawLine_100 : decode cX3_drawLine 100 = .ok (.aload_n 0, 1) := by decide +kernel
theorem dX3_drawLine_101 : decode cX3_drawLine 101 = .ok (.getfield 23, 3) := by decide +kernel
theorem dX3_drawLine_104 : decode cX3_drawLine 104 = .ok (.iload 5, 2) := by decide +kernel
theorem dX3_drawLine_106 : decode cX3_drawLine 106 = .ok (.iload 7, 2) := by decide +kernel
theorem dX3_drawLine_108 : decode cX3_drawLine 108 = .ok (.ifCond .ne 27, 3) := by decide +kernel
theorem dX3_drawLine_111 : decode cX3_drawLine 111 = .ok (.aload_n 0, 1) := by decide +kernel
theorem dX3_drawLine_112 : decode cX3_drawLine 112 = .ok (.getfield 30, 3) := by decide +kernel
theorem dX3_drawLine_115 : decode cX3_drawLine 115 = .ok (.iload 6, 2) := by decide +kernel
theorem dX3_drawLine_117 : decode cX3_drawLine 117 = .ok (.iload 6, 2) := by decide +kernel
theorem dX3_drawLine_119 : decode cX3_drawLine 119 = .ok (.iload 4, 2) := by decide +kernel
theorem dX3_drawLine_121 : decode cX3_drawLine 121 = .ok (.iadd, 1) := by decide +kernel
theorem dX3_drawLine_122 : decode cX3_drawLine 122 = .ok (.invokevirtual 49, 3) := by decide +kernel
theorem dX3_drawLine_125 : decode cX3_drawLine 125 = .ok (.aload_n 0, 1) := by decide +kernel
theorem dX3_drawLine_126 : decode cX3_drawLine 126 = .ok (.getfield 30, 3) := by decide +kernel
theorem dX3_drawLine_129 : decode cX3_drawLine 129 = .ok (.getfield 53, 3) := by decide +kernel
theorem dX3_drawLine_132 : decode cX3_drawLine 132 = .ok (.if_icmp .ge 10, 3) := by decide +kernel
theorem dX3_drawLine_135 : decode cX3_drawLine 135 = .ok (.aload_n 0, 1) := by decide +kernel
theorem dX3_drawLine_136 : decode cX3_drawLine 136 = .ok (.getfield 9, 3) := by decide +kernel
theorem dX3_drawLine_139 : decode cX3_drawLine 139 = .ok (.goto 7, 3) := by decide +kernel
theorem dX3_drawLine_142 : decode cX3_drawLine 142 = .ok (.aload_n 0, 1) := by decide +kernel
theorem dX3_drawLine_143 : decode cX3_drawLine 143 = .ok (.getfield 15, 3) := by decide +kernel
theorem dX3_drawLine_146 : decode cX3_drawLine 146 = .ok (.iastore, 1) := by decide +kernel
theorem dX3_drawLine_147 : decode cX3_drawLine 147 = .ok (.aload_n 0, 1) := by decide +kernel
theorem dX3_drawLine_148 : decode cX3_drawLine 148 = .ok (.getfield 34, 3) := by decide +kernel
theorem dX3_drawLine_151 : decode cX3_drawLine 151 = .ok (.iload 6, 2) := by decide +kernel
theorem dX3_drawLine_153 : decode cX3_drawLine 153 = .ok (.iconst (-1), 1) := by decide +kernel
theorem dX3_drawLine_154 : decode cX3_drawLine 154 = .ok (.invokevirtual 56, 3) := by decide +kernel
theorem dX3_drawLine_157 : decode cX3_drawLine 157 = .ok (.iconst 0, 1) := by decide +kernel
theorem dX3_drawLine_158 : decode cX3_drawLine 158 = .ok (.istore 8, 2) := by decide +kernel
theorem dX3_drawLine_160 : decode cX3_drawLine 160 = .ok (.iload 8, 2) := by decide +kernel
theorem dX3_drawLine_162 : decode cX3_drawLine 162 = .ok (.aload_n 0, 1) := by decide +kernel
theorem dX3_drawLine_163 : decode cX3_drawLine 163 = .ok (.getfield 34, 3) := by decide +kernel
theorem dX3_drawLine_166 : decode cX3_drawLine 166 = .ok (.getfield 62, 3) := by decide +kernel
theorem dX3_drawLine_169 : decode cX3_drawLine 169 = .ok (.if_icmp .ge 58, 3) := by decide +kernel
theorem dX3_drawLine_172 : decode cX3_drawLine 172 = .ok (.aload_n 0, 1) := by decide +kernel
theorem dX3_drawLine_173 : decode cX3_drawLine 173 = .ok (.getfield 20, 3) := by decide +kernel
theorem dX3_drawLine_176 : decode cX3_drawLine 176 = .ok (.iload 5, 2) := by decide +kernel
theorem dX3_drawLine_178 : decode cX3_drawLine 178 = .ok (.aaload, 1) := by decide +kernel
theorem dX3_drawLine_179 : decode cX3_drawLine 179 = .ok (.iload 8, 2) := by decide +kernel
theorem dX3_drawLine_181 : decode cX3_drawLine 181 = .ok (.sipush 1000, 3) := by decide +kernel
theorem dX3_drawLine_184 : decode cX3_drawLine 184 = .ok (.aload_n 0, 1) := by decide +kernel
theorem dX3_drawLine_185 : decode cX3_drawLine 185 = .ok (.getfield 34, 3) := by decide +kernel
theorem dX3_drawLine_188 : decode cX3_drawLine 188 = .ok (.iload 8, 2) := by decide +kernel
theorem dX3_drawLine_190 : decode cX3_drawLine 190 = .ok (.invokevirtual 65, 3) := by decide +kernel
theorem dX3_drawLine_193 : decode cX3_drawLine 193 = .ok (.isub, 1) := by decide +kernel
theorem dX3_drawLine_194 : decode cX3_drawLine 194 = .ok (.iload 7, 2) := by decide +kernel
theorem dX3_drawLine_196 : decode cX3_drawLine 196 = .ok (.ifCond .eq 7, 3) := by decide +kernel
theorem dX3_drawLine_199 : decode cX3_drawLine 199 = .ok (.iconst 0, 1) := by decide +kernel
theorem dX3_drawLine_200 : decode cX3_drawLine 200 = .ok (.goto 19, 3) := by decide +kernel
theorem dX3_drawLine_203 : decode cX3_drawLine 203 = .ok (.aload_n 0, 1) := by decide +kernel
theorem dX3_drawLine_204 : decode cX3_drawLine 204 = .ok (.iload 5, 2) := by decide +kernel
theorem dX3_drawLine_206 : decode cX3_drawLine 206 = .ok (.iload 8, 2) := by decide +kernel
theorem dX3_drawLine_208 : decode cX3_drawLine 208 = .ok (.aload_n 0, 1) := by decide +kernel
theorem dX3_drawLine_209 : decode cX3_drawLine 209 = .ok (.iload 5, 2) := by decide +kernel
theorem dX3_drawLine_211 : decode cX3_drawLine 211 = .ok (.iload 8, 2) := by decide +kernel
theorem dX3_drawLine_213 : decode cX3_drawLine 213 = .ok (.invokevirtual 69, 3) := by decide +kernel
theorem dX3_drawLine_216 : decode cX3_drawLine 216 = .ok (.invokevirtual 72, 3) := by decide +kernel
theorem dX3_drawLine_219 : decode cX3_drawLine 219 = .ok (.iadd, 1) := by decide +kernel
theorem dX3_drawLine_220 : decode cX3_drawLine 220 = .ok (.iastore, 1) := by decide +kernel
theorem dX3_drawLine_221 : decode cX3_drawLine 221 = .ok (.iinc 8 1, 3) := by decide +kernel
theorem dX3_drawLine_224 : decode cX3_drawLine 224 = .ok (.goto (-64), 3) := by decide +kernel
theorem dX3_drawLine_227 : decode cX3_drawLine 227 = .ok (.iinc 5 (-1), 3) := by decide +kernel
theorem dX3_drawLine_230 : decode cX3_drawLine 230 = .ok (.goto (-162), 3) := by decide +kernel
theorem dX3_drawLine_233 : decode cX3_drawLine 233 = .ok (.aload_n 0, 1) := by decide +kernel
theorem dX3_drawLine_234 : decode cX3_drawLine 234 = .ok (.invokevirtual 76, 3) := by decide +kernel
theorem dX3_drawLine_237 : decode cX3_drawLine 237 = .ok (.ireturn, 1) := by decide +kernel
theorem dX3_chooseKinds_0 : decode cX3_chooseKinds 0 = .ok (.iconst 0, 1) := by decide +kernel
theorem dX3_chooseKinds_1 : decode cX3_chooseKinds 1 = .ok (.istore_n 1, 1) := by decide +kernel
theorem dX3_chooseKinds_2 : decode cX3_chooseKinds 2 = .ok (.iconst 1, 1) := by decide +kernel
theorem dX3_chooseKinds_3 : decode cX3_chooseKinds 3 = .ok (.istore_n 2, 1) := by decide +kernel
theorem dX3_chooseKinds_4 : decode cX3_chooseKinds 4 = .ok (.iload_n 2, 1) := by decide +kernel
theorem dX3_chooseKinds_5 : decode cX3_chooseKinds 5 = .ok (.aload_n 0, 1) := by decide +kernel
theorem dX3_chooseKinds_6 : decode cX3_chooseKinds 6 = .ok (.getfield 34, 3) := by decide +kernel
theorem dX3_chooseKinds_9 : decode cX3_chooseKinds 9 = .ok (.getfield 62, 3) := by decide +kernel
theorem dX3_chooseKinds_12 : decode cX3_chooseKinds 12 = .ok (.if_icmp .ge 34, 3) := by decide +kernel
theorem dX3_chooseKinds_15 : decode cX3_chooseKinds 15 = .ok (.aload_n 0, 1) := by decide +kernel
theorem dX3_chooseKinds_16 : decode cX3_chooseKinds 16 = .ok (.getfield 20, 3) := by decide +kernel
theorem dX3_chooseKinds_19 : decode cX3_chooseKinds 19 = .ok (.iconst 0, 1) := by decide +kernel
theorem dX3_chooseKinds_20 : decode cX3_chooseKinds 20 = .ok (.aaload, 1) := by decide +kernel
theorem dX3_chooseKinds_21 : decode cX3_chooseKinds 21 = .ok (.iload_n 2, 1) := by decide +kernel
theorem dX3_chooseKinds_22 : decode cX3_chooseKinds 22 = .ok (.iaload, 1) := by decide +kernel
theorem dX3_chooseKinds_23 : decode cX3_chooseKinds 23 = .ok (.aload_n 0, 1) := by decide +kernel
theorem dX3_chooseKinds_24 : decode cX3_chooseKinds 24 = .ok (.getfield 20, 3) := by decide +kernel
theorem dX3_chooseKinds_27 : decode cX3_chooseKinds 27 = .ok (.iconst 0, 1) := by decide +kernel
theorem dX3_chooseKinds_28 : decode cX3_chooseKinds 28 = .ok (.aaload, 1) := by decide +kernel
theorem dX3_chooseKinds_29 : decode cX3_chooseKinds 29 = .ok (.iload_n 1, 1) := by decide +kernel
theorem dX3_chooseKinds_30 : decode cX3_chooseKinds 30 = .ok (.iaload, 1) := by decide +kernel
theorem dX3_chooseKinds_31 : decode cX3_chooseKinds 31 = .ok (.if_icmp .ge 7, 3) := by decide +kernel
theorem dX3_chooseKinds_34 : decode cX3_chooseKinds 34 = .ok (.iload_n 2, 1) := by decide +kernel
theorem dX3_chooseKinds_35 : decode cX3_chooseKinds 35 = .ok (.goto 4, 3) := by decide +kernel
theorem dX3_chooseKinds_38 : decode cX3_chooseKinds 38 = .ok (.iload_n 1, 1) := by decide +kernel
theorem dX3_chooseKinds_39 : decode cX3_chooseKinds 39 = .ok (.istore_n 1, 1) := by decide +kernel
theorem dX3_chooseKinds_40 : decode cX3_chooseKinds 40 = .ok (.iinc 2 1, 3) := by decide +kernel
theorem dX3_chooseKinds_43 : decode cX3_chooseKinds 43 = .ok (.goto (-39), 3) := by decide +kernel
theorem dX3_chooseKinds_46 : decode cX3_chooseKinds 46 = .ok (.aload_n 0, 1) := by decide +kernel
theorem dX3_chooseKinds_47 : decode cX3_chooseKinds 47 = .ok (.getfield 20, 3) := by decide +kernel
theorem dX3_chooseKinds_50 : decode cX3_chooseKinds 50 = .ok (.iconst 0, 1) := by decide +kernel
theorem dX3_chooseKinds_51 : decode cX3_chooseKinds 51 = .ok (.aaload, 1) := by decide +kernel
theorem dX3_chooseKinds_52 : decode cX3_chooseKinds 52 = .ok (.iload_n 1, 1) := by decide +kernel
theorem dX3_chooseKinds_53 : decode cX3_chooseKinds 53 = .ok (.iaload, 1) := by decide +kernel
theorem dX3_chooseKinds_54 : decode cX3_chooseKinds 54 = .ok (.istore_n 2, 1) := by decide +kernel
theorem dX3_chooseKinds_55 : decode cX3_chooseKinds 55 = .ok (.aload_n 0, 1) := by decide +kernel
theorem dX3_chooseKinds_56 : decode cX3_chooseKinds 56 = .ok (.getfield 27, 3) := by decide +kernel
theorem dX3_chooseKinds_59 : decode cX3_chooseKinds 59 = .ok (.iconst 0, 1) := by decide +kernel
theorem dX3_chooseKinds_60 : decode cX3_chooseKinds 60 = .ok (.iload_n 1, 1) := by decide +kernel
theorem dX3_chooseKinds_61 : decode cX3_chooseKinds 61 = .ok (.iastore, 1) := by decide +kernel
theorem dX3_chooseKinds_62 : decode cX3_chooseKinds 62 = .ok (.iconst 1, 1) := by decide +kernel
theorem dX3_chooseKinds_63 : decode cX3_chooseKinds 63 = .ok (.istore_n 3, 1) := by decide +kernel
theorem dX3_chooseKinds_64 : decode cX3_chooseKinds 64 = .ok (.iload_n 3, 1) := by decide +kernel
theorem dX3_chooseKinds_65 : decode cX3_chooseKinds 65 = .ok (.aload_n 0, 1) := by decide +kernel
theorem dX3_chooseKinds_66 : decode cX3_chooseKinds 66 = .ok (.getfield 46, 3) := by decide +kernel
theorem dX3_chooseKinds_69 : decode cX3_chooseKinds 69 = .ok (.if_icmp .ge 30, 3) := by decide +kernel
theorem dX3_chooseKinds_72 : decode cX3_chooseKinds 72 = .ok (.aload_n 0, 1) := by decide +kernel
theorem dX3_chooseKinds_73 : decode cX3_chooseKinds 73 = .ok (.getfield 27, 3) := by decide +kernel
theorem dX3_chooseKinds_76 : decode cX3_chooseKinds 76 = .ok (.iload_n 3, 1) := by decide +kernel
theorem dX3_chooseKinds_77 : decode cX3_chooseKinds 77 = .ok (.aload_n 0, 1) := by decide +kernel
theorem dX3_chooseKinds_78 : decode cX3_chooseKinds 78 = .ok (.iload_n 3, 1) := by decide +kernel
theorem dX3_chooseKinds_79 : decode cX3_chooseKinds 79 = .ok (.iconst 1, 1) := by decide +kernel
theorem dX3_chooseKinds_80 : decode cX3_chooseKinds 80 = .ok (.isub, 1) := by decide +kernel
theorem dX3_chooseKinds_81 : decode cX3_chooseKinds 81 = .ok (.aload_n 0, 1) := by decide +kernel
theorem dX3_chooseKinds_82 : decode cX3_chooseKinds 82 = .ok (.getfield 27, 3) := by decide +kernel
theorem dX3_chooseKinds_85 : decode cX3_chooseKinds 85 = .ok (.iload_n 3, 1) := by decide +kernel
theorem dX3_chooseKinds_86 : decode cX3_chooseKinds 86 = .ok (.iconst 1, 1) := by decide +kernel
theorem dX3_chooseKinds_87 : decode cX3_chooseKinds 87 = .ok (.isub, 1) := by decide +kernel
theorem dX3_chooseKinds_88 : decode cX3_chooseKinds 88 = .ok (.iaload, 1) := by decide +kernel
theorem dX3_chooseKinds_89 : decode cX3_chooseKinds 89 = .ok (.invokevirtual 69, 3) := by decide +kernel
theorem dX3_chooseKinds_92 : decode cX3_chooseKinds 92 = .ok (.iastore, 1) := by decide +kernel
theorem dX3_chooseKinds_93 : decode cX3_chooseKinds 93 = .ok (.iinc 3 1, 3) := by decide +kernel
theorem dX3_chooseKinds_96 : decode cX3_chooseKinds 96 = .ok (.goto (-32), 3) := by decide +kernel
theorem dX3_chooseKinds_99 : decode cX3_chooseKinds 99 = .ok (.iload_n 2, 1) := by decide +kernel
theorem dX3_chooseKinds_100 : decode cX3_chooseKinds 100 = .ok (.ireturn, 1) := by decide +kernel
theorem dX3_followerOf_0 : decode cX3_followerOf 0 = .ok (.iconst 0, 1) := by decide +kernel
theorem dX3_followerOf_1 : decode cX3_followerOf 1 = .ok (.istore_n 3, 1) := by decide +kernel
theorem dX3_followerOf_2 : decode cX3_followerOf 2 = .ok (.iconst 1, 1) := by decide +kernel
theorem dX3_followerOf_3 : decode cX3_followerOf 3 = .ok (.istore 4, 2) := by decide +kernel
theorem dX3_followerOf_5 : decode cX3_followerOf 5 = .ok (.iload 4, 2) := by decide +kernel
theorem dX3_followerOf_7 : decode cX3_followerOf 7 = .ok (.aload_n 0, 1) := by decide +kernel
theorem dX3_followerOf_8 : decode cX3_followerOf 8 = .ok (.getfield 34, 3) := by decide +kernel
theorem dX3_followerOf_11 : decode cX3_followerOf 11 = .ok (.getfield 62, 3) := by decide +kernel
theorem dX3_followerOf_14 : decode cX3_followerOf 14 = .ok (.if_icmp .ge 34, 3) := by decide +kernel
theorem dX3_followerOf_17 : decode cX3_followerOf 17 = .ok (.aload_n 0, 1) := by decide +kernel
theorem dX3_followerOf_18 : decode cX3_followerOf 18 = .ok (.iload_n 1, 1) := by decide +kernel
theorem dX3_followerOf_19 : decode cX3_followerOf 19 = .ok (.iload_n 2, 1) := by decide +kernel
theorem dX3_followerOf_20 : decode cX3_followerOf 20 = .ok (.iload 4, 2) := by decide +kernel
theorem dX3_followerOf_22 : decode cX3_followerOf 22 = .ok (.invokevirtual 72, 3) := by decide +kernel
theorem dX3_followerOf_25 : decode cX3_followerOf 25 = .ok (.aload_n 0, 1) := by decide +kernel
theorem dX3_followerOf_26 : decode cX3_followerOf 26 = .ok (.iload_n 1, 1) := by decide +kernel
theorem dX3_followerOf_27 : decode cX3_followerOf 27 = .ok (.iload_n 2, 1) := by decide +kernel
theorem dX3_followerOf_28 : decode cX3_followerOf 28 = .ok (.iload_n 3, 1) := by decide +kernel
theorem dX3_followerOf_29 : decode cX3_followerOf 29 = .ok (.invokevirtual 72, 3) := by decide +kernel
theorem dX3_followerOf_32 : decode cX3_followerOf 32 = .ok (.if_icmp .ge 8, 3) := by decide +kernel
theorem dX3_followerOf_35 : decode cX3_followerOf 35 = .ok (.iload 4, 2) := by decide +kernel
theorem dX3_followerOf_37 : decode cX3_followerOf 37 = .ok (.goto 4, 3) := by decide +kernel
theorem dX3_followerOf_40 : decode cX3_followerOf 40 = .ok (.iload_n 3, 1) := by decide +kernel
theorem dX3_followerOf_41 : decode cX3_followerOf 41 = .ok (.istore_n 3, 1) := by decide +kernel
theorem dX3_followerOf_42 : decode cX3_followerOf 42 = .ok (.iinc 4 1, 3) := by decide +kernel
theorem dX3_followerOf_45 : decode cX3_followerOf 45 = .ok (.goto (-40), 3) := by decide +kernel
theorem dX3_followerOf_48 : decode cX3_followerOf 48 = .ok (.iload_n 3, 1) := by decide +kernel
theorem dX3_followerOf_49 : decode cX3_followerOf 49 = .ok (.ireturn, 1) := by decide +kernel
theorem dX3_costBehind_0 : decode cX3_costBehind 0 = .ok (.aload_n 0, 1) := by decide +kernel
theorem dX3_costBehind_1 : decode cX3_costBehind 1 = .ok (.getfield 20, 3) := by decide +kernel
theorem dX3_costBehind_4 : decode cX3_costBehind 4 = .ok (.iload_n 1, 1) := by decide +kernel
theorem dX3_costBehind_5 : decode cX3_costBehind 5 = .ok (.iconst 1, 1) := by decide +kernel
theorem dX3_costBehind_6 : decode cX3_costBehind 6 = .ok (.iadd, 1) := by decide +kernel
theorem dX3_costBehind_7 : decode cX3_costBehind 7 = .ok (.aaload, 1) := by decide +kernel
theorem dX3_costBehind_8 : decode cX3_costBehind 8 = .ok (.iload_n 3, 1) := by decide +kernel
theorem dX3_costBehind_9 : decode cX3_costBehind 9 = .ok (.iaload, 1) := by decide +kernel
theorem dX3_costBehind_10 : decode cX3_costBehind 10 = .ok (.iload_n 2, 1) := by decide +kernel
theorem dX3_costBehind_11 : decode cX3_costBehind 11 = .ok (.iload_n 3, 1) := by decide +kernel
theorem dX3_costBehind_12 : decode cX3_costBehind 12 = .ok (.if_icmp .ne 7, 3) := by decide +kernel
theorem dX3_costBehind_15 : decode cX3_costBehind 15 = .ok (.iconst 0, 1) := by decide +kernel
theorem dX3_costBehind_16 : decode cX3_costBehind 16 = .ok (.goto 9, 3) := by decide +kernel
theorem dX3_costBehind_19 : decode cX3_costBehind 19 = .ok (.aload_n 0, 1) := by decide +kernel
theorem dX3_costBehind_20 : decode cX3_costBehind 20 = .ok (.getfield 23, 3) := by decide +kernel
theorem dX3_costBehind_23 : decode cX3_costBehind 23 = .ok (.iload_n 1, 1) := by decide +kernel
theorem dX3_costBehind_24 : decode cX3_costBehind 24 = .ok (.iaload, 1) := by decide +kernel
theorem dX3_costBehind_25 : decode cX3_costBehind 25 = .ok (.iadd, 1) := by decide +kernel
theorem dX3_costBehind_26 : decode cX3_costBehind 26 = .ok (.ireturn, 1) := by decide +kernel
theorem dX4_init_0 : decode cX4_init 0 = .ok (.aload_n 0, 1) := by decide +kernel
theorem dX4_init_1 : decode cX4_init 1 = .ok (.invokespecial 3, 3) := by decide +kernel
theorem dX4_init_4 : decode cX4_init 4 = .ok (.aload_n 0, 1) := by decide +kernel
theorem dX4_init_5 : decode cX4_init 5 = .ok (.bipush 96, 2) := by decide +kernel
theorem dX4_init_7 : decode cX4_init 7 = .ok (.newarray .int, 2) := by decide +kernel
theorem dX4_init_9 : decode cX4_init 9 = .ok (.putfield 11, 3) := by decide +kernel
theorem dX4_init_12 : decode cX4_init 12 = .ok (.aload_n 0, 1) := by decide +kernel
theorem dX4_init_13 : decode cX4_init 13 = .ok (.bipush 96, 2) := by decide +kernel
theorem dX4_init_15 : decode cX4_init 15 = .ok (.newarray .int, 2) := by decide +kernel
theorem dX4_init_17 : decode cX4_init 17 = .ok (.putfield 15, 3) := by decide +kernel
theorem dX4_init_20 : decode cX4_init 20 = .ok (.aload_n 0, 1) := by decide +kernel
theorem dX4_init_21 : decode cX4_init 21 = .ok (.bipush 96, 2) := by decide +kernel
theorem dX4_init_23 : decode cX4_init 23 = .ok (.newarray .int, 2) := by decide +kernel
theorem dX4_init_25 : decode cX4_init 25 = .ok (.putfield 18, 3) := by decide +kernel
theorem dX4_init_28 : decode cX4_init 28 = .ok (.aload_n 0, 1) := by decide +kernel
theorem dX4_init_29 : decode cX4_init 29 = .ok (.bipush 16, 2) := by decide +kernel
theorem dX4_init_31 : decode cX4_init 31 = .ok (.newarray .int, 2) := by decide +kernel
theorem dX4_init_33 : decode cX4_init 33 = .ok (.putfield 21, 3) := by decide +kernel
theorem dX4_init_36 : decode cX4_init 36 = .ok (.aload_n 0, 1) := by decide +kernel
theorem dX4_init_37 : decode cX4_init 37 = .ok (.bipush 16, 2) := by decide +kernel
theorem dX4_init_39 : decode cX4_init 39 = .ok (.newarray .int, 2) := by decide +kernel
theorem dX4_init_41 : decode cX4_init 41 = .ok (.putfield 24, 3) := by decide +kernel
theorem dX4_init_44 : decode cX4_init 44 = .ok (.aload_n 0, 1) := by decide +kernel
theorem dX4_init_45 : decode cX4_init 45 = .ok (.bipush 8, 2) := by decide +kernel
theorem dX4_init_47 : decode cX4_init 47 = .ok (.newarray .long, 2) := by decide +kernel
theorem dX4_init_49 : decode cX4_init 49 = .ok (.putfield 27, 3) := by decide +kernel
theorem dX4_init_52 : decode cX4_init 52 = .ok (.aload_n 0, 1) := by decide +kernel
theorem dX4_init_53 : decode cX4_init 53 = .ok (.bipush 96, 2) := by decide +kernel
theorem dX4_init_55 : decode cX4_init 55 = .ok (.newarray .int, 2) := by decide +kernel
theorem dX4_init_57 : decode cX4_init 57 = .ok (.putfield 31, 3) := by decide +kernel
theorem dX4_init_60 : decode cX4_init 60 = .ok (.return_, 1) := by decide +kernel
theorem dX4_clear_0 : decode cX4_clear 0 = .ok (.aload_n 0, 1) := by decide +kernel
theorem dX4_clear_1 : decode cX4_clear 1 = .ok (.iconst 0, 1) := by decide +kernel
theorem dX4_clear_2 : decode cX4_clear 2 = .ok (.putfield 34, 3) := by decide +kernel
theorem dX4_clear_5 : decode cX4_clear 5 = .ok (.aload_n 0, 1) := by decide +kernel
theorem dX4_clear_6 : decode cX4_clear 6 = .ok (.iconst 0, 1) := by decide +kernel
theorem dX4_clear_7 : decode cX4_clear 7 = .ok (.putfield 38, 3) := by decide +kernel
theorem dX4_clear_10 : decode cX4_clear 10 = .ok (.aload_n 0, 1) := by decide +kernel
theorem dX4_clear_11 : decode cX4_clear 11 = .ok (.iconst 0, 1) := by decide +kernel
theorem dX4_clear_12 : decode cX4_clear 12 = .ok (.putfield 41, 3) := by decide +kernel
theorem dX4_clear_15 : decode cX4_clear 15 = .ok (.aload_n 0, 1) := by decide +kernel
theorem dX4_clear_16 : decode cX4_clear 16 = .ok (.iconst 0, 1) := by decide +kernel
theorem dX4_clear_17 : decode cX4_clear 17 = .ok (.putfield 44, 3) := by decide +kernel
theorem dX4_clear_20 : decode cX4_clear 20 = .ok (.return_, 1) := by decide +kernel
theorem dX4_numberOf_0 : decode cX4_numberOf 0 = .ok (.iconst 0, 1) := by decide +kernel
theorem dX4_numberOf_1 : decode cX4_numberOf 1 = .ok (.istore_n 3, 1) := by decide +kernel
theorem dX4_numberOf_2 : decode cX4_numberOf 2 = .ok (.iload_n 3, 1) := by decide +kernel
theorem dX4_numberOf_3 : decode cX4_numberOf 3 = .ok (.aload_n 0, 1) := by decide +kernel
theorem dX4_numberOf_4 : decode cX4_numberOf 4 = .ok (.getfield 41, 3) := by decide +kernel
theorem dX4_numberOf_7 : decode cX4_numberOf 7 = .ok (.if_icmp .ge 22, 3) := by decide +kernel
theorem dX4_numberOf_10 : decode cX4_numberOf 10 = .ok (.aload_n 0, 1) := by decide +kernel
theorem dX4_numberOf_11 : decode cX4_numberOf 11 = .ok (.getfield 27, 3) := by decide +kernel
theorem dX4_numberOf_14 : decode cX4_numberOf 14 = .ok (.iload_n 3, 1) := by decide +kernel
theorem dX4_numberOf_15 : decode cX4_numberOf 15 = .ok (.laload, 1) := by decide +kernel
theorem dX4_numberOf_16 : decode cX4_numberOf 16 = .ok (.lload_n 1, 1) := by decide +kernel
theorem dX4_numberOf_17 : decode cX4_numberOf 17 = .ok (.lcmp, 1) := by decide +kernel
theorem dX4_numberOf_18 : decode cX4_numberOf 18 = .ok (.ifCond .ne 5, 3) := by decide +kernel
theorem dX4_numberOf_21 : decode cX4_numberOf 21 = .ok (.iload_n 3, 1) := by decide +kernel
theorem dX4_numberOf_22 : decode cX4_numberOf 22 = .ok (.ireturn, 1) := by decide +kernel
theorem dX4_numberOf_23 : decode cX4_numberOf 23 = .ok (.iinc 3 1, 3) := by decide +kernel
theorem dX4_numberOf_26 : decode cX4_numberOf 26 = .ok (.goto (-24), 3) := by decide +kernel
theorem dX4_numberOf_29 : decode cX4_numberOf 29 = .ok (.aload_n 0, 1) := by decide +kernel
theorem dX4_numberOf_30 : decode cX4_numberOf 30 = .ok (.getfield 41, 3) := by decide +kernel
theorem dX4_numberOf_33 : decode cX4_numberOf 33 = .ok (.bipush 8, 2) := by decide +kernel
theorem dX4_numberOf_35 : decode cX4_numberOf 35 = .ok (.if_icmp .lt 5, 3) := by decide +kernel
theorem dX4_numberOf_38 : decode cX4_numberOf 38 = .ok (.iconst (-1), 1) := by decide +kernel
theorem dX4_numberOf_39 : decode cX4_numberOf 39 = .ok (.ireturn, 1) := by decide +kernel
theorem dX4_numberOf_40 : decode cX4_numberOf 40 = .ok (.aload_n 0, 1) := by decide +kernel
theorem dX4_numberOf_41 : decode cX4_numberOf 41 = .ok (.getfield 27, 3) := by decide +kernel
theorem dX4_numberOf_44 : decode cX4_numberOf 44 = .ok (.aload_n 0, 1) := by decide +kernel
theorem dX4_numberOf_45 : decode cX4_numberOf 45 = .ok (.getfield 41, 3) := by decide +kernel
theorem dX4_numberOf_48 : decode cX4_numberOf 48 = .ok (.lload_n 1, 1) := by decide +kernel
theorem dX4_numberOf_49 : decode cX4_numberOf 49 = .ok (.lastore, 1) := by decide +kernel
theorem dX4_numberOf_50 : decode cX4_numberOf 50 = .ok (.aload_n 0, 1) := by decide +kernel
theorem dX4_numberOf_51 : decode cX4_numberOf 51 = .ok (.dup, 1) := by decide +kernel
theorem dX4_numberOf_52 : decode cX4_numberOf 52 = .ok (.getfield 41, 3) := by decide +kernel
theorem dX4_numberOf_55 : decode cX4_numberOf 55 = .ok (.iconst 1, 1) := by decide +kernel
theorem dX4_numberOf_56 : decode cX4_numberOf 56 = .ok (.iadd, 1) := by decide +kernel
theorem dX4_numberOf_57 : decode cX4_numberOf 57 = .ok (.putfield 41, 3) := by decide +kernel
theorem dX4_numberOf_60 : decode cX4_numberOf 60 = .ok (.aload_n 0, 1) := by decide +kernel
theorem dX4_numberOf_61 : decode cX4_numberOf 61 = .ok (.getfield 41, 3) := by decide +kernel
theorem dX4_numberOf_64 : decode cX4_numberOf 64 = .ok (.iconst 1, 1) := by decide +kernel
theorem dX4_numberOf_65 : decode cX4_numberOf 65 = .ok (.isub, 1) := by decide +kernel
theorem dX4_numberOf_66 : decode cX4_numberOf 66 = .ok (.ireturn, 1) := by decide +kernel
theorem dX4_emit_0 : decode cX4_emit 0 = .ok (.aload_n 0, 1) := by decide +kernel
theorem dX4_emit_1 : decode cX4_emit 1 = .ok (.getfield 34, 3) := by decide +kernel
theorem dX4_emit_4 : decode cX4_emit 4 = .ok (.bipush 96, 2) := by decide +kernel
theorem dX4_emit_6 : decode cX4_emit 6 = .ok (.if_icmp .ge 43, 3) := by decide +kernel
theorem dX4_emit_9 : decode cX4_emit 9 = .ok (.aload_n 0, 1) := by decide +kernel
theorem dX4_emit_10 : decode cX4_emit 10 = .ok (.getfield 11, 3) := by decide +kernel
theorem dX4_emit_13 : decode cX4_emit 13 = .ok (.aload_n 0, 1) := by decide +kernel
theorem dX4_emit_14 : decode cX4_emit 14 = .ok (.getfield 34, 3) := by decide +kernel
theorem dX4_emit_17 : decode cX4_emit 17 = .ok (.iload_n 1, 1) := by decide +kernel
theorem dX4_emit_18 : decode cX4_emit 18 = .ok (.iastore, 1) := by decide +kernel
theorem dX4_emit_19 : decode cX4_emit 19 = .ok (.aload_n 0, 1) := by decide +kernel
theorem dX4_emit_20 : decode cX4_emit 20 = .ok (.getfield 15, 3) := by decide +kernel
theorem dX4_emit_23 : decode cX4_emit 23 = .ok (.aload_n 0, 1) := by decide +kernel
theorem dX4_emit_24 : decode cX4_emit 24 = .ok (.getfield 34, 3) := by decide +kernel
theorem dX4_emit_27 : decode cX4_emit 27 = .ok (.iload_n 2, 1) := by decide +kernel
theorem dX4_emit_28 : decode cX4_emit 28 = .ok (.iastore, 1) := by decide +kernel
theorem dX4_emit_29 : decode cX4_emit 29 = .ok (.aload_n 0, 1) := by decide +kernel
theorem dX4_emit_30 : decode cX4_emit 30 = .ok (.getfield 18, 3) := by decide +kernel
theorem dX4_emit_33 : decode cX4_emit 33 = .ok (.aload_n 0, 1) := by decide +kernel
theorem dX4_emit_34 : decode cX4_emit 34 = .ok (.getfield 34, 3) := by decide +kernel
theorem dX4_emit_37 : decode cX4_emit 37 = .ok (.iload_n 3, 1) := by decide +kernel
theorem dX4_emit_38 : decode cX4_emit 38 = .ok (.iastore, 1) := by decide +kernel
theorem dX4_emit_39 : decode cX4_emit 39 = .ok (.aload_n 0, 1) := by decide +kernel
theorem dX4_emit_40 : decode cX4_emit 40 = .ok (.dup, 1) := by decide +kernel
theorem dX4_emit_41 : decode cX4_emit 41 = .ok (.getfield 34, 3) := by decide +kernel
theorem dX4_emit_44 : decode cX4_emit 44 = .ok (.iconst 1, 1) := by decide +kernel
theorem dX4_emit_45 : decode cX4_emit 45 = .ok (.iadd, 1) := by decide +kernel
theorem dX4_emit_46 : decode cX4_emit 46 = .ok (.putfield 34, 3) := by decide +kernel
theorem dX4_emit_49 : decode cX4_emit 49 = .ok (.return_, 1) := by decide +kernel
theorem dX4_endLine_0 : decode cX4_endLine 0 = .ok (.aload_n 0, 1) := by decide +kernel
theorem dX4_endLine_1 : decode cX4_endLine 1 = .ok (.getfield 38, 3) := by decide +kernel
theorem dX4_endLine_4 : decode cX4_endLine 4 = .ok (.bipush 16, 2) := by decide +kernel
theorem dX4_endLine_6 : decode cX4_endLine 6 = .ok (.if_icmp .ge 36, 3) := by decide +kernel
theorem dX4_endLine_9 : decode cX4_endLine 9 = .ok (.aload_n 0, 1) := by decide +kernel
theorem dX4_endLine_10 : decode cX4_endLine 10 = .ok (.getfield 21, 3) := by decide +kernel
theorem dX4_endLine_13 : decode cX4_endLine 13 = .ok (.aload_n 0, 1) := by decide +kernel
theorem dX4_endLine_14 : decode cX4_endLine 14 = .ok (.getfield 38, 3) := by decide +kernel
theorem dX4_endLine_17 : decode cX4_endLine 17 = .ok (.aload_n 0, 1) := by decide +kernel
theorem dX4_endLine_18 : decode cX4_endLine 18 = .ok (.getfield 34, 3) := by decide +kernel
theorem dX4_endLine_21 : decode cX4_endLine 21 = .ok (.iastore, 1) := by decide +kernel
theorem dX4_endLine_22 : decode cX4_endLine 22 = .ok (.aload_n 0, 1) := by decide +kernel
theorem dX4_endLine_23 : decode cX4_endLine 23 = .ok (.getfield 24, 3) := by decide +kernel
theorem dX4_endLine_26 : decode cX4_endLine 26 = .ok (.aload_n 0, 1) := by decide +kernel
theorem dX4_endLine_27 : decode cX4_endLine 27 = .ok (.getfield 38, 3) := by decide +kernel
theorem dX4_endLine_30 : decode cX4_endLine 30 = .ok (.iload_n 1, 1) := by decide +kernel
theorem dX4_endLine_31 : decode cX4_endLine 31 = .ok (.iastore, 1) := by decide +kernel
theorem dX4_endLine_32 : decode cX4_endLine 32 = .ok (.aload_n 0, 1) := by decide +kernel
theorem dX4_endLine_33 : decode cX4_endLine 33 = .ok (.dup, 1) := by decide +kernel
theorem dX4_endLine_34 : decode cX4_endLine 34 = .ok (.getfield 38, 3) := by decide +kernel
theorem dX4_endLine_37 : decode cX4_endLine 37 = .ok (.iconst 1, 1) := by decide +kernel
theorem dX4_endLine_38 : decode cX4_endLine 38 = .ok (.iadd, 1) := by decide +kernel
theorem dX4_endLine_39 : decode cX4_endLine 39 = .ok (.putfield 38, 3) := by decide +kernel
theorem dX4_endLine_42 : decode cX4_endLine 42 = .ok (.return_, 1) := by decide +kernel
theorem dX4_firstLineOf_0 : decode cX4_firstLineOf 0 = .ok (.iconst 0, 1) := by decide +kernel
theorem dX4_firstLineOf_1 : decode cX4_firstLineOf 1 = .ok (.istore_n 2, 1) := by decide +kernel
theorem dX4_firstLineOf_2 : decode cX4_firstLineOf 2 = .ok (.iconst 0, 1) := by decide +kernel
theorem dX4_firstLineOf_3 : decode cX4_firstLineOf 3 = .ok (.istore_n 3, 1) := by decide +kernel
theorem dX4_firstLineOf_4 : decode cX4_firstLineOf 4 = .ok (.iload_n 3, 1) := by decide +kernel
theorem dX4_firstLineOf_5 : decode cX4_firstLineOf 5 = .ok (.aload_n 0, 1) := by decide +kernel
theorem dX4_firstLineOf_6 : decode cX4_firstLineOf 6 = .ok (.getfield 38, 3) := by decide +kernel
theorem dX4_firstLineOf_9 : decode cX4_firstLineOf 9 = .ok (.if_icmp .ge 33, 3) := by decide +kernel
theorem dX4_firstLineOf_12 : decode cX4_firstLineOf 12 = .ok (.aload_n 0, 1) := by decide +kernel
theorem dX4_firstLineOf_13 : decode cX4_firstLineOf 13 = .ok (.aload_n 1, 1) := by decide +kernel
theorem dX4_firstLineOf_14 : decode cX4_firstLineOf 14 = .ok (.iload_n 2, 1) := by decide +kernel
theorem dX4_firstLineOf_15 : decode cX4_firstLineOf 15 = .ok (.aload_n 0, 1) := by decide +kernel
theorem dX4_firstLineOf_16 : decode cX4_firstLineOf 16 = .ok (.getfield 21, 3) := by decide +kernel
theorem dX4_firstLineOf_19 : decode cX4_firstLineOf 19 = .ok (.iload_n 3, 1) := by decide +kernel
theorem dX4_firstLineOf_20 : decode cX4_firstLineOf 20 = .ok (.iaload, 1) := by decide +kernel
theorem dX4_firstLineOf_21 : decode cX4_firstLineOf 21 = .ok (.invokevirtual 47, 3) := by decide +kernel
theorem dX4_firstLineOf_24 : decode cX4_firstLineOf 24 = .ok (.ifCond .eq 5, 3) := by decide +kernel
theorem dX4_firstLineOf_27 : decode cX4_firstLineOf 27 = .ok (.iload_n 3, 1) := by decide +kernel
theorem dX4_firstLineOf_28 : decode cX4_firstLineOf 28 = .ok (.ireturn, 1) := by decide +kernel
theorem dX4_firstLineOf_29 : decode cX4_firstLineOf 29 = .ok (.aload_n 0, 1) := by decide +kernel
theorem dX4_firstLineOf_30 : decode cX4_firstLineOf 30 = .ok (.getfield 21, 3) := by decide +kernel
theorem dX4_firstLineOf_33 : decode cX4_firstLineOf 33 = .ok (.iload_n 3, 1) := by decide +kernel
theorem dX4_firstLineOf_34 : decode cX4_firstLineOf 34 = .ok (.iaload, 1) := by decide +kernel
theorem dX4_firstLineOf_35 : decode cX4_firstLineOf 35 = .ok (.istore_n 2, 1) := by decide +kernel
theorem dX4_firstLineOf_36 : decode cX4_firstLineOf 36 = .ok (.iinc 3 1, 3) := by decide +kernel
theorem dX4_firstLineOf_39 : decode cX4_firstLineOf 39 = .ok (.goto (-35), 3) := by decide +kernel
theorem dX4_firstLineOf_42 : decode cX4_firstLineOf 42 = .ok (.iconst (-1), 1) := by decide +kernel
theorem dX4_firstLineOf_43 : decode cX4_firstLineOf 43 = .ok (.ireturn, 1) := by decide +kernel
theorem dX4_holds_0 : decode cX4_holds 0 = .ok (.iconst 0, 1) := by decide +kernel
theorem dX4_holds_1 : decode cX4_holds 1 = .ok (.istore 4, 2) := by decide +kernel
theorem dX4_holds_3 : decode cX4_holds 3 = .ok (.iload_n 2, 1) := by decide +kernel
theorem dX4_holds_4 : decode cX4_holds 4 = .ok (.istore 5, 2) := by decide +kernel
theorem dX4_holds_6 : decode cX4_holds 6 = .ok (.iload 5, 2) := by decide +kernel
theorem dX4_holds_8 : decode cX4_holds 8 = .ok (.iload_n 3, 1) := by decide +kernel
theorem dX4_holds_9 : decode cX4_holds 9 = .ok (.if_icmp .ge 201, 3) := by decide +kernel
theorem dX4_holds_12 : decode cX4_holds 12 = .ok (.aload_n 0, 1) := by decide +kernel
theorem dX4_holds_13 : decode cX4_holds 13 = .ok (.getfield 11, 3) := by decide +kernel
theorem dX4_holds_16 : decode cX4_holds 16 = .ok (.iload 5, 2) := by decide +kernel
theorem dX4_holds_18 : decode cX4_holds 18 = .ok (.iaload, 1) := by decide +kernel
theorem dX4_holds_19 : decode cX4_holds 19 = .ok (.bipush 15, 2) := by decide +kernel
theorem dX4_holds_21 : decode cX4_holds 21 = .ok (.if_icmp .eq 15, 3) := by decide +kernel
theorem dX4_holds_24 : decode cX4_holds 24 = .ok (.aload_n 0, 1) := by decide +kernel
theorem dX4_holds_25 : decode cX4_holds 25 = .ok (.getfield 11, 3) := by decide +kernel
theorem dX4_holds_28 : decode cX4_holds 28 = .ok (.iload 5, 2) := by decide +kernel
theorem dX4_holds_30 : decode cX4_holds 30 = .ok (.iaload, 1) := by decide +kernel
theorem dX4_holds_31 : decode cX4_holds 31 = .ok (.bipush 14, 2) := by decide +kernel
theorem dX4_holds_33 : decode cX4_holds 33 = .ok (.if_icmp .ne 75, 3) := by decide +kernel
theorem dX4_holds_36 : decode cX4_holds 36 = .ok (.iload 4, 2) := by decide +kernel
theorem dX4_holds_38 : decode cX4_holds 38 = .ok (.iconst 2, 1) := by decide +kernel
theorem dX4_holds_39 : decode cX4_holds 39 = .ok (.if_icmp .ge 5, 3) := by decide +kernel
theorem dX4_holds_42 : decode cX4_holds 42 = .ok (.iconst 0, 1) := by decide +kernel
theorem dX4_holds_43 : decode cX4_holds 43 = .ok (.ireturn, 1) := by decide +kernel
theorem dX4_holds_44 : decode cX4_holds 44 = .ok (.iinc 4 (-1), 3) := by decide +kernel
theorem dX4_holds_47 : decode cX4_holds 47 = .ok (.aload_n 0, 1) := by decide +kernel
theorem dX4_holds_48 : decode cX4_holds 48 = .ok (.getfield 31, 3) := by decide +kernel
theorem dX4_holds_51 : decode cX4_holds 51 = .ok (.iload 4, 2) := by decide +kernel
theorem dX4_holds_53 : decode cX4_holds 53 = .ok (.iconst 1, 1) := by decide +kernel
theorem dX4_holds_54 : decode cX4_holds 54 = .ok (.isub, 1) := by decide +kernel
theorem dX4_holds_55 : decode cX4_holds 55 = .ok (.aload_n 0, 1) := by decide +kernel
theorem dX4_holds_56 : decode cX4_holds 56 = .ok (.getfield 11, 3) := by decide +kernel
theorem dX4_holds_59 : decode cX4_holds 59 = .ok (.iload 5, 2) := by decide +kernel
theorem dX4_holds_61 : decode cX4_holds 61 = .ok (.iaload, 1) := by decide +kernel
theorem dX4_holds_62 : decode cX4_holds 62 = .ok (.bipush 15, 2) := by decide +kernel
theorem dX4_holds_64 : decode cX4_holds 64 = .ok (.if_icmp .ne 23, 3) := by decide +kernel
theorem dX4_holds_67 : decode cX4_holds 67 = .ok (.aload_n 0, 1) := by decide +kernel
theorem dX4_holds_68 : decode cX4_holds 68 = .ok (.getfield 31, 3) := by decide +kernel
theorem dX4_holds_71 : decode cX4_holds 71 = .ok (.iload 4, 2) := by decide +kernel
theorem dX4_holds_73 : decode cX4_holds 73 = .ok (.iconst 1, 1) := by decide +kernel
theorem dX4_holds_74 : decode cX4_holds 74 = .ok (.isub, 1) := by decide +kernel
theorem dX4_holds_75 : decode cX4_holds 75 = .ok (.iaload, 1) := by decide +kernel
theorem dX4_holds_76 : decode cX4_holds 76 = .ok (.aload_n 0, 1) := by decide +kernel
theorem dX4_holds_77 : decode cX4_holds 77 = .ok (.getfield 31, 3) := by decide +kernel
theorem dX4_holds_80 : decode cX4_holds 80 = .ok (.iload 4, 2) := by decide +kernel
theorem dX4_holds_82 : decode cX4_holds 82 = .ok (.iaload, 1) := by decide +kernel
theorem dX4_holds_83 : decode cX4_holds 83 = .ok (.iand, 1) := by decide +kernel
theorem dX4_holds_84 : decode cX4_holds 84 = .ok (.goto 20, 3) := by decide +kernel
theorem dX4_holds_87 : decode cX4_holds 87 = .ok (.aload_n 0, 1) := by decide +kernel
theorem dX4_holds_88 : decode cX4_holds 88 = .ok (.getfield 31, 3) := by decide +kernel
theorem dX4_holds_91 : decode cX4_holds 91 = .ok (.iload 4, 2) := by decide +kernel
theorem dX4_holds_93 : decode cX4_holds 93 = .ok (.iconst 1, 1) := by decide +kernel
theorem dX4_holds_94 : decode cX4_holds 94 = .ok (.isub, 1) := by decide +kernel
theorem dX4_holds_95 : decode cX4_holds 95 = .ok (.iaload, 1) := by decide +kernel
theorem dX4_holds_96 : decode cX4_holds 96 = .ok (.aload_n 0, 1) := by decide +kernel
theorem dX4_holds_97 : decode cX4_holds 97 = .ok (.getfield 31, 3) := by decide +kernel
theorem dX4_holds_100 : decode cX4_holds 100 = .ok (.iload 4, 2) := by decide +kernel
theorem dX4_holds_102 : decode cX4_holds 102 = .ok (.iaload, 1) := by decide +kernel
theorem dX4_holds_103 : decode cX4_holds 103 = .ok (.ior, 1) := by decide +kernel
theorem dX4_holds_104 : decode cX4_holds 104 = .ok (.iastore, 1) := by decide +kernel
theorem dX4_holds_105 : decode cX4_holds 105 = .ok (.goto 99, 3) := by decide +kernel
theorem dX4_holds_108 : decode cX4_holds 108 = .ok (.aload_n 0, 1) := by decide +kernel
theorem dX4_holds_109 : decode cX4_holds 109 = .ok (.getfield 11, 3) := by decide +kernel
theorem dX4_holds_112 : decode cX4_holds 112 = .ok (.iload 5, 2) := by decide +kernel
theorem dX4_holds_114 : decode cX4_holds 114 = .ok (.iaload, 1) := by decide +kernel
theorem dX4_holds_115 : decode cX4_holds 115 = .ok (.bipush 16, 2) := by decide +kernel
theorem dX4_holds_117 : decode cX4_holds 117 = .ok (.if_icmp .eq 27, 3) := by decide +kernel
theorem dX4_holds_120 : decode cX4_holds 120 = .ok (.aload_n 0, 1) := by decide +kernel
theorem dX4_holds_121 : decode cX4_holds 121 = .ok (.getfield 11, 3) := by decide +kernel
theorem dX4_holds_124 : decode cX4_holds 124 = .ok (.iload 5, 2) := by decide +kernel
theorem dX4_holds_126 : decode cX4_holds 126 = .ok (.iaload, 1) := by decide +kernel
theorem dX4_holds_127 : decode cX4_holds 127 = .ok (.bipush 18, 2) := by decide +kernel
theorem dX4_holds_129 : decode cX4_holds 129 = .ok (.if_icmp .lt 51, 3) := by decide +kernel
theorem dX4_holds_132 : decode cX4_holds 132 = .ok (.aload_n 0, 1) := by decide +kernel
theorem dX4_holds_133 : decode cX4_holds 133 = .ok (.getfield 11, 3) := by decide +kernel
theorem dX4_holds_136 : decode cX4_holds 136 = .ok (.iload 5, 2) := by decide +kernel
theorem dX4_holds_138 : decode cX4_holds 138 = .ok (.iaload, 1) := by decide +kernel
theorem dX4_holds_139 : decode cX4_holds 139 = .ok (.bipush 22, 2) := by decide +kernel
theorem dX4_holds_141 : decode cX4_holds 141 = .ok (.if_icmp .gt 39, 3) := by decide +kernel
theorem dX4_holds_144 : decode cX4_holds 144 = .ok (.iload 4, 2) := by decide +kernel
theorem dX4_holds_146 : decode cX4_holds 146 = .ok (.iconst 1, 1) := by decide +kernel
theorem dX4_holds_147 : decode cX4_holds 147 = .ok (.if_icmp .ge 5, 3) := by decide +kernel
theorem dX4_holds_150 : decode cX4_holds 150 = .ok (.iconst 0, 1) := by decide +kernel
theorem dX4_holds_151 : decode cX4_holds 151 = .ok (.ireturn, 1) := by decide +kernel
theorem dX4_holds_152 : decode cX4_holds 152 = .ok (.aload_n 0, 1) := by decide +kernel
theorem dX4_holds_153 : decode cX4_holds 153 = .ok (.getfield 31, 3) := by decide +kernel
theorem dX4_holds_156 : decode cX4_holds 156 = .ok (.iload 4, 2) := by decide +kernel
theorem dX4_holds_158 : decode cX4_holds 158 = .ok (.iconst 1, 1) := by decide +kernel
theorem dX4_holds_159 : decode cX4_holds 159 = .ok (.isub, 1) := by decide +kernel
theorem dX4_holds_160 : decode cX4_holds 160 = .ok (.aload_n 0, 1) := by decide +kernel
theorem dX4_holds_161 : decode cX4_holds 161 = .ok (.aload_n 1, 1) := by decide +kernel
theorem dX4_holds_162 : decode cX4_holds 162 = .ok (.iload 5, 2) := by decide +kernel
theorem dX4_holds_164 : decode cX4_holds 164 = .ok (.aload_n 0, 1) := by decide +kernel
theorem dX4_holds_165 : decode cX4_holds 165 = .ok (.getfield 31, 3) := by decide +kernel
theorem dX4_holds_168 : decode cX4_holds 168 = .ok (.iload 4, 2) := by decide +kernel
theorem dX4_holds_170 : decode cX4_holds 170 = .ok (.iconst 1, 1) := by decide +kernel
theorem dX4_holds_171 : decode cX4_holds 171 = .ok (.isub, 1) := by decide +kernel
theorem dX4_holds_172 : decode cX4_holds 172 = .ok (.iaload, 1) := by decide +kernel
theorem dX4_holds_173 : decode cX4_holds 173 = .ok (.invokevirtual 51, 3) := by decide +kernel
theorem dX4_holds_176 : decode cX4_holds 176 = .ok (.iastore, 1) := by decide +kernel
theorem dX4_holds_177 : decode cX4_holds 177 = .ok (.goto 27, 3) := by decide +kernel
theorem dX4_holds_180 : decode cX4_holds 180 = .ok (.iload 4, 2) := by decide +kernel
theorem dX4_holds_182 : decode cX4_holds 182 = .ok (.bipush 96, 2) := by decide +kernel
theorem dX4_holds_184 : decode cX4_holds 184 = .ok (.if_icmp .ge 20, 3) := by decide +kernel
theorem dX4_holds_187 : decode cX4_holds 187 = .ok (.aload_n 0, 1) := by decide +kernel
theorem dX4_holds_188 : decode cX4_holds 188 = .ok (.getfield 31, 3) := by decide +kernel
theorem dX4_holds_191 : decode cX4_holds 191 = .ok (.iload 4, 2) := by decide +kernel
theorem dX4_holds_193 : decode cX4_holds 193 = .ok (.aload_n 0, 1) := by decide +kernel
theorem dX4_holds_194 : decode cX4_holds 194 = .ok (.aload_n 1, 1) := by decide +kernel
theorem dX4_holds_195 : decode cX4_holds 195 = .ok (.iload 5, 2) := by decide +kernel
theorem dX4_holds_197 : decode cX4_holds 197 = .ok (.invokevirtual 55, 3) := by decide +kernel
theorem dX4_holds_200 : decode cX4_holds 200 = .ok (.iastore, 1) := by decide +kernel
theorem dX4_holds_201 : decode cX4_holds 201 = .ok (.iinc 4 1, 3) := by decide +kernel
theorem dX4_holds_204 : decode cX4_holds 204 = .ok (.iinc 5 1, 3) := by decide +kernel
theorem dX4_holds_207 : decode cX4_holds 207 = .ok (.goto (-201), 3) := by decide +kernel
theorem dX4_holds_210 : decode cX4_holds 210 = .ok (.iload 4, 2) := by decide +kernel
theorem dX4_holds_212 : decode cX4_holds 212 = .ok (.ifCond .le 19, 3) := by decide +kernel
theorem dX4_holds_215 : decode cX4_holds 215 = .ok (.aload_n 0, 1) := by decide +kernel
theorem dX4_holds_216 : decode cX4_holds 216 = .ok (.getfield 31, 3) := by decide +kernel
theorem dX4_holds_219 : decode cX4_holds 219 = .ok (.iload 4, 2) := by decide +kernel
theorem dX4_holds_221 : decode cX4_holds 221 = .ok (.iconst 1, 1) := by decide +kernel
theorem dX4_holds_222 : decode cX4_holds 222 = .ok (.isub, 1) := by decide +kernel
theorem dX4_holds_223 : decode cX4_holds 223 = .ok (.iaload, 1) := by decide +kernel
theorem dX4_holds_224 : decode cX4_holds 224 = .ok (.ifCond .eq 7, 3) := by decide +kernel
theorem dX4_holds_227 : decode cX4_holds 227 = .ok (.iconst 1, 1) := by decide +kernel
theorem dX4_holds_228 : decode cX4_holds 228 = .ok (.goto 4, 3) := by decide +kernel
theorem dX4_holds_231 : decode cX4_holds 231 = .ok (.iconst 0, 1) := by decide +kernel
theorem dX4_holds_232 : decode cX4_holds 232 = .ok (.ireturn, 1) := by decide +kernel
theorem dX4_leaf_0 : decode cX4_leaf 0 = .ok (.aload_n 1, 1) := by decide +kernel
theorem dX4_leaf_1 : decode cX4_leaf 1 = .ok (.invokevirtual 59, 3) := by decide +kernel
theorem dX4_leaf_4 : decode cX4_leaf 4 = .ok (.istore_n 3, 1) := by decide +kernel
theorem dX4_leaf_5 : decode cX4_leaf 5 = .ok (.aload_n 0, 1) := by decide +kernel
theorem dX4_leaf_6 : decode cX4_leaf 6 = .ok (.getfield 11, 3) := by decide +kernel
theorem dX4_leaf_9 : decode cX4_leaf 9 = .ok (.iload_n 2, 1) := by decide +kernel
theorem dX4_leaf_10 : decode cX4_leaf 10 = .ok (.iaload, 1) := by decide +kernel
theorem dX4_leaf_11 : decode cX4_leaf 11 = .ok (.bipush 17, 2) := by decide +kernel
theorem dX4_leaf_13 : decode cX4_leaf 13 = .ok (.if_icmp .ne 5, 3) := by decide +kernel
theorem dX4_leaf_16 : decode cX4_leaf 16 = .ok (.iload_n 3, 1) := by decide +kernel
theorem dX4_leaf_17 : decode cX4_leaf 17 = .ok (.ireturn, 1) := by decide +kernel
theorem dX4_leaf_18 : decode cX4_leaf 18 = .ok (.aload_n 0, 1) := by decide +kernel
theorem dX4_leaf_19 : decode cX4_leaf 19 = .ok (.getfield 11, 3) := by decide +kernel
theorem dX4_leaf_22 : decode cX4_leaf 22 = .ok (.iload_n 2, 1) := by decide +kernel
theorem dX4_leaf_23 : decode cX4_leaf 23 = .ok (.iaload, 1) := by decide +kernel
theorem dX4_leaf_24 : decode cX4_leaf 24 = .ok (.bipush 23, 2) := by decide +kernel
theorem dX4_leaf_26 : decode cX4_leaf 26 = .ok (.if_icmp .ne 21, 3) := by decide +kernel
theorem dX4_leaf_29 : decode cX4_leaf 29 = .ok (.aload_n 0, 1) := by decide +kernel
theorem dX4_leaf_30 : decode cX4_leaf 30 = .ok (.aload_n 1, 1) := by decide +kernel
theorem dX4_leaf_31 : decode cX4_leaf 31 = .ok (.invokevirtual 65, 3) := by decide +kernel
theorem dX4_leaf_34 : decode cX4_leaf 34 = .ok (.iload_n 2, 1) := by decide +kernel
theorem dX4_leaf_35 : decode cX4_leaf 35 = .ok (.invokevirtual 68, 3) := by decide +kernel
theorem dX4_leaf_38 : decode cX4_leaf 38 = .ok (.ifCond .eq 7, 3) := by decide +kernel
theorem dX4_leaf_41 : decode cX4_leaf 41 = .ok (.iload_n 3, 1) := by decide +kernel
theorem dX4_leaf_42 : decode cX4_leaf 42 = .ok (.goto 4, 3) := by decide +kernel
theorem dX4_leaf_45 : decode cX4_leaf 45 = .ok (.iconst 0, 1) := by decide +kernel
theorem dX4_leaf_46 : decode cX4_leaf 46 = .ok (.ireturn, 1) := by decide +kernel
theorem dX4_leaf_47 : decode cX4_leaf 47 = .ok (.iconst 0, 1) := by decide +kernel
theorem dX4_leaf_48 : decode cX4_leaf 48 = .ok (.istore 4, 2) := by decide +kernel
theorem dX4_leaf_50 : decode cX4_leaf 50 = .ok (.iconst 0, 1) := by decide +kernel
theorem dX4_leaf_51 : decode cX4_leaf 51 = .ok (.istore 5, 2) := by decide +kernel
theorem dX4_leaf_53 : decode cX4_leaf 53 = .ok (.iload 5, 2) := by decide +kernel
theorem dX4_leaf_55 : decode cX4_leaf 55 = .ok (.aload_n 1, 1) := by decide +kernel
theorem dX4_leaf_56 : decode cX4_leaf 56 = .ok (.getfield 72, 3) := by decide +kernel
theorem dX4_leaf_59 : decode cX4_leaf 59 = .ok (.if_icmp .ge 29, 3) := by decide +kernel
theorem dX4_leaf_62 : decode cX4_leaf 62 = .ok (.aload_n 0, 1) := by decide +kernel
theorem dX4_leaf_63 : decode cX4_leaf 63 = .ok (.aload_n 1, 1) := by decide +kernel
theorem dX4_leaf_64 : decode cX4_leaf 64 = .ok (.iload 5, 2) := by decide +kernel
theorem dX4_leaf_66 : decode cX4_leaf 66 = .ok (.iload_n 2, 1) := by decide +kernel
theorem dX4_leaf_67 : decode cX4_leaf 67 = .ok (.invokevirtual 75, 3) := by decide +kernel
theorem dX4_leaf_70 : decode cX4_leaf 70 = .ok (.ifCond .eq 12, 3) := by decide +kernel
theorem dX4_leaf_73 : decode cX4_leaf 73 = .ok (.iload 4, 2) := by decide +kernel
theorem dX4_leaf_75 : decode cX4_leaf 75 = .ok (.iconst 1, 1) := by decide +kernel
theorem dX4_leaf_76 : decode cX4_leaf 76 = .ok (.iload 5, 2) := by decide +kernel
theorem dX4_leaf_78 : decode cX4_leaf 78 = .ok (.ishl, 1) := by decide +kernel
theorem dX4_leaf_79 : decode cX4_leaf 79 = .ok (.ior, 1) := by decide +kernel
theorem dX4_leaf_80 : decode cX4_leaf 80 = .ok (.istore 4, 2) := by decide +kernel
theorem dX4_leaf_82 : decode cX4_leaf 82 = .ok (.iinc 5 1, 3) := by decide +kernel
theorem dX4_leaf_85 : decode cX4_leaf 85 = .ok (.goto (-32), 3) := by decide +kernel
theorem dX4_leaf_88 : decode cX4_leaf 88 = .ok (.iload 4, 2) := by decide +kernel
theorem dX4_leaf_90 : decode cX4_leaf 90 = .ok (.ireturn, 1) := by decide +kernel
theorem dX4_isSo_0 : decode cX4_isSo 0 = .ok (.aload_n 0, 1) := by decide +kernel
theorem dX4_isSo_1 : decode cX4_isSo 1 = .ok (.getfield 11, 3) := by decide +kernel
theorem dX4_isSo_4 : decode cX4_isSo 4 = .ok (.iload_n 3, 1) := by decide +kernel
theorem dX4_isSo_5 : decode cX4_isSo 5 = .ok (.iaload, 1) := by decide +kernel
theorem dX4_isSo_6 : decode cX4_isSo 6 = .ok (.tableswitch 73 11 13 #[26, 42, 54], 26) := by decide +kernel
theorem dX4_isSo_32 : decode cX4_isSo 32 = .ok (.aload_n 1, 1) := by decide +kernel
theorem dX4_isSo_33 : decode cX4_isSo 33 = .ok (.iload_n 2, 1) := by decide +kernel
theorem dX4_isSo_34 : decode cX4_isSo 34 = .ok (.iconst 4, 1) := by decide +kernel
theorem dX4_isSo_35 : decode cX4_isSo 35 = .ok (.invokevirtual 78, 3) := by decide +kernel
theorem dX4_isSo_38 : decode cX4_isSo 38 = .ok (.iconst 1, 1) := by decide +kernel
theorem dX4_isSo_39 : decode cX4_isSo 39 = .ok (.if_icmp .ne 7, 3) := by decide +kernel
theorem dX4_isSo_42 : decode cX4_isSo 42 = .ok (.iconst 1, 1) := by decide +kernel
theorem dX4_isSo_43 : decode cX4_isSo 43 = .ok (.goto 4, 3) := by decide +kernel
theorem dX4_isSo_46 : decode cX4_isSo 46 = .ok (.iconst 0, 1) := by decide +kernel
theorem dX4_isSo_47 : decode cX4_isSo 47 = .ok (.ireturn, 1) := by decide +kernel
theorem dX4_isSo_48 : decode cX4_isSo 48 = .ok (.aload_n 0, 1) := by decide +kernel
theorem dX4_isSo_49 : decode cX4_isSo 49 = .ok (.aload_n 1, 1) := by decide +kernel
theorem dX4_isSo_50 : decode cX4_isSo 50 = .ok (.iload_n 2, 1) := by decide +kernel
theorem dX4_isSo_51 : decode cX4_isSo 51 = .ok (.iconst 5, 1) := by decide +kernel
theorem dX4_isSo_52 : decode cX4_isSo 52 = .ok (.invokevirtual 78, 3) := by decide +kernel
theorem dX4_isSo_55 : decode cX4_isSo 55 = .ok (.iload_n 3, 1) := by decide +kernel
theorem dX4_isSo_56 : decode cX4_isSo 56 = .ok (.invokevirtual 68, 3) := by decide +kernel
theorem dX4_isSo_59 : decode cX4_isSo 59 = .ok (.ireturn, 1) := by decide +kernel
theorem dX4_isSo_60 : decode cX4_isSo 60 = .ok (.aload_n 0, 1) := by decide +kernel
theorem dX4_isSo_61 : decode cX4_isSo 61 = .ok (.aload_n 1, 1) := by decide +kernel
theorem dX4_isSo_62 : decode cX4_isSo 62 = .ok (.iload_n 2, 1) := by decide +kernel
theorem dX4_isSo_63 : decode cX4_isSo 63 = .ok (.iconst 1, 1) := by decide +kernel
theorem dX4_isSo_64 : decode cX4_isSo 64 = .ok (.invokevirtual 78, 3) := by decide +kernel
theorem dX4_isSo_67 : decode cX4_isSo 67 = .ok (.aload_n 1, 1) := by decide +kernel
theorem dX4_isSo_68 : decode cX4_isSo 68 = .ok (.iload_n 2, 1) := by decide +kernel
theorem dX4_isSo_69 : decode cX4_isSo 69 = .ok (.iconst 0, 1) := by decide +kernel
theorem dX4_isSo_70 : decode cX4_isSo 70 = .ok (.invokevirtual 78, 3) := by decide +kernel
theorem dX4_isSo_73 : decode cX4_isSo 73 = .ok (.isub, 1) := by decide +kernel
theorem dX4_isSo_74 : decode cX4_isSo 74 = .ok (.iload_n 3, 1) := by decide +kernel
theorem dX4_isSo_75 : decode cX4_isSo 75 = .ok (.invokevirtual 68, 3) := by decide +kernel
theorem dX4_isSo_78 : decode cX4_isSo 78 = .ok (.ireturn, 1) := by decide +kernel
theorem dX4_isSo_79 : decode cX4_isSo 79 = .ok (.aload_n 0, 1) := by decide +kernel
theorem dX4_isSo_80 : decode cX4_isSo 80 = .ok (.getfield 11, 3) := by decide +kernel
theorem dX4_isSo_83 : decode cX4_isSo 83 = .ok (.iload_n 3, 1) := by decide +kernel
theorem dX4_isSo_84 : decode cX4_isSo 84 = .ok (.iaload, 1) := by decide +kernel
theorem dX4_isSo_85 : decode cX4_isSo 85 = .ok (.bipush 6, 2) := by decide +kernel
theorem dX4_isSo_87 : decode cX4_isSo 87 = .ok (.if_icmp .ge 28, 3) := by decide +kernel
theorem dX4_isSo_90 : decode cX4_isSo 90 = .ok (.aload_n 1, 1) := by decide +kernel
theorem dX4_isSo_91 : decode cX4_isSo 91 = .ok (.iload_n 2, 1) := by decide +kernel
theorem dX4_isSo_92 : decode cX4_isSo 92 = .ok (.iconst 2, 1) := by decide +kernel
theorem dX4_isSo_93 : decode cX4_isSo 93 = .ok (.invokevirtual 78, 3) := by decide +kernel
theorem dX4_isSo_96 : decode cX4_isSo 96 = .ok (.aload_n 0, 1) := by decide +kernel
theorem dX4_isSo_97 : decode cX4_isSo 97 = .ok (.getfield 11, 3) := by decide +kernel
theorem dX4_isSo_100 : decode cX4_isSo 100 = .ok (.iload_n 3, 1) := by decide +kernel
theorem dX4_isSo_101 : decode cX4_isSo 101 = .ok (.iaload, 1) := by decide +kernel
theorem dX4_isSo_102 : decode cX4_isSo 102 = .ok (.iconst 0, 1) := by decide +kernel
theorem dX4_isSo_103 : decode cX4_isSo 103 = .ok (.isub, 1) := by decide +kernel
theorem dX4_isSo_104 : decode cX4_isSo 104 = .ok (.if_icmp .ne 7, 3) := by decide +kernel
theorem dX4_isSo_107 : decode cX4_isSo 107 = .ok (.iconst 1, 1) := by decide +kernel
theorem dX4_isSo_108 : decode cX4_isSo 108 = .ok (.goto 30, 3) := by decide +kernel
theorem dX4_isSo_111 : decode cX4_isSo 111 = .ok (.iconst 0, 1) := by decide +kernel
theorem dX4_isSo_112 : decode cX4_isSo 112 = .ok (.goto 26, 3) := by decide +kernel
theorem dX4_isSo_115 : decode cX4_isSo 115 = .ok (.aload_n 1, 1) := by decide +kernel
theorem dX4_isSo_116 : decode cX4_isSo 116 = .ok (.iload_n 2, 1) := by decide +kernel
theorem dX4_isSo_117 : decode cX4_isSo 117 = .ok (.iconst 3, 1) := by decide +kernel
theorem dX4_isSo_118 : decode cX4_isSo 118 = .ok (.invokevirtual 78, 3) := by decide +kernel
theorem dX4_isSo_121 : decode cX4_isSo 121 = .ok (.aload_n 0, 1) := by decide +kernel
theorem dX4_isSo_122 : decode cX4_isSo 122 = .ok (.getfield 11, 3) := by decide +kernel
theorem dX4_isSo_125 : decode cX4_isSo 125 = .ok (.iload_n 3, 1) := by decide +kernel
theorem dX4_isSo_126 : decode cX4_isSo 126 = .ok (.iaload, 1) := by decide +kernel
theorem dX4_isSo_127 : decode cX4_isSo 127 = .ok (.bipush 6, 2) := by decide +kernel
theorem dX4_isSo_129 : decode cX4_isSo 129 = .ok (.isub, 1) := by decide +kernel
theorem dX4_isSo_130 : decode cX4_isSo 130 = .ok (.if_icmp .ne 7, 3) := by decide +kernel
theorem dX4_isSo_133 : decode cX4_isSo 133 = .ok (.iconst 1, 1) := by decide +kernel
theorem dX4_isSo_134 : decode cX4_isSo 134 = .ok (.goto 4, 3) := by decide +kernel
theorem dX4_isSo_137 : decode cX4_isSo 137 = .ok (.iconst 0, 1) := by decide +kernel
theorem dX4_isSo_138 : decode cX4_isSo 138 = .ok (.ireturn, 1) := by decide +kernel
theorem dX4_changed_0 : decode cX4_changed 0 = .ok (.aload_n 1, 1) := by decide +kernel
theorem dX4_changed_1 : decode cX4_changed 1 = .ok (.invokevirtual 59, 3) := by decide +kernel
theorem dX4_changed_4 : decode cX4_changed 4 = .ok (.istore 4, 2) := by decide +kernel
theorem dX4_changed_6 : decode cX4_changed 6 = .ok (.aload_n 0, 1) := by decide +kernel
theorem dX4_changed_7 : decode cX4_changed 7 = .ok (.getfield 11, 3) := by decide +kernel
theorem dX4_changed_10 : decode cX4_changed 10 = .ok (.iload_n 2, 1) := by decide +kernel
theorem dX4_changed_11 : decode cX4_changed 11 = .ok (.iaload, 1) := by decide +kernel
theorem dX4_changed_12 : decode cX4_changed 12 = .ok (.tableswitch 108 16 21 #[40, 108, 47, 61, 77, 93], 40) := by decide +kernel
theorem dX4_changed_52 : decode cX4_changed 52 = .ok (.iload 4, 2) := by decide +kernel
theorem dX4_changed_54 : decode cX4_changed 54 = .ok (.iload_n 3, 1) := by decide +kernel
theorem dX4_changed_55 : decode cX4_changed 55 = .ok (.iconst (-1), 1) := by decide +kernel
theorem dX4_changed_56 : decode cX4_changed 56 = .ok (.ixor, 1) := by decide +kernel
theorem dX4_changed_57 : decode cX4_changed 57 = .ok (.iand, 1) := by decide +kernel
theorem dX4_changed_58 : decode cX4_changed 58 = .ok (.ireturn, 1) := by decide +kernel
theorem dX4_changed_59 : decode cX4_changed 59 = .ok (.iload_n 3, 1) := by decide +kernel
theorem dX4_changed_60 : decode cX4_changed 60 = .ok (.ifCond .eq 7, 3) := by decide +kernel
theorem dX4_changed_63 : decode cX4_changed 63 = .ok (.iconst 1, 1) := by decide +kernel
theorem dX4_changed_64 : decode cX4_changed 64 = .ok (.goto 4, 3) := by decide +kernel
theorem dX4_changed_67 : decode cX4_changed 67 = .ok (.iconst 0, 1) := by decide +kernel
theorem dX4_changed_68 : decode cX4_changed 68 = .ok (.istore 5, 2) := by decide +kernel
theorem dX4_changed_70 : decode cX4_changed 70 = .ok (.goto 62, 3) := by decide +kernel
theorem dX4_changed_73 : decode cX4_changed 73 = .ok (.iload_n 3, 1) := by decide +kernel
theorem dX4_changed_74 : decode cX4_changed 74 = .ok (.iload 4, 2) := by decide +kernel
theorem dX4_changed_76 : decode cX4_changed 76 = .ok (.if_icmp .ne 7, 3) := by decide +kernel
theorem dX4_changed_79 : decode cX4_changed 79 = .ok (.iconst 1, 1) := by decide +kernel
theorem dX4_changed_80 : decode cX4_changed 80 = .ok (.goto 4, 3) := by decide +kernel
theorem dX4_changed_83 : decode cX4_changed 83 = .ok (.iconst 0, 1) := by decide +kernel
theorem dX4_changed_84 : decode cX4_changed 84 = .ok (.istore 5, 2) := by decide +kernel
theorem dX4_changed_86 : decode cX4_changed 86 = .ok (.goto 46, 3) := by decide +kernel
theorem dX4_changed_89 : decode cX4_changed 89 = .ok (.aload_n 1, 1) := by decide +kernel
theorem dX4_changed_90 : decode cX4_changed 90 = .ok (.aload_n 0, 1) := by decide +kernel
theorem dX4_changed_91 : decode cX4_changed 91 = .ok (.getfield 18, 3) := by decide +kernel
theorem dX4_changed_94 : decode cX4_changed 94 = .ok (.iload_n 2, 1) := by decide +kernel
theorem dX4_changed_95 : decode cX4_changed 95 = .ok (.iaload, 1) := by decide +kernel
theorem dX4_changed_96 : decode cX4_changed 96 = .ok (.iload_n 3, 1) := by decide +kernel
theorem dX4_changed_97 : decode cX4_changed 97 = .ok (.invokestatic 82, 3) := by decide +kernel
theorem dX4_changed_100 : decode cX4_changed 100 = .ok (.istore 5, 2) := by decide +kernel
theorem dX4_changed_102 : decode cX4_changed 102 = .ok (.goto 30, 3) := by decide +kernel
theorem dX4_changed_105 : decode cX4_changed 105 = .ok (.aload_n 0, 1) := by decide +kernel
theorem dX4_changed_106 : decode cX4_changed 106 = .ok (.aload_n 1, 1) := by decide +kernel
theorem dX4_changed_107 : decode cX4_changed 107 = .ok (.iload_n 3, 1) := by decide +kernel
theorem dX4_changed_108 : decode cX4_changed 108 = .ok (.invokestatic 85, 3) := by decide +kernel
theorem dX4_changed_111 : decode cX4_changed 111 = .ok (.iload_n 2, 1) := by decide +kernel
theorem dX4_changed_112 : decode cX4_changed 112 = .ok (.invokevirtual 68, 3) := by decide +kernel
theorem dX4_changed_115 : decode cX4_changed 115 = .ok (.istore 5, 2) := by decide +kernel
theorem dX4_changed_117 : decode cX4_changed 117 = .ok (.goto 15, 3) := by decide +kernel
theorem dX4_changed_120 : decode cX4_changed 120 = .ok (.aload_n 0, 1) := by decide +kernel
theorem dX4_changed_121 : decode cX4_changed 121 = .ok (.aload_n 1, 1) := by decide +kernel
theorem dX4_changed_122 : decode cX4_changed 122 = .ok (.iload_n 3, 1) := by decide +kernel
theorem dX4_changed_123 : decode cX4_changed 123 = .ok (.invokestatic 88, 3) := by decide +kernel
theorem dX4_changed_126 : decode cX4_changed 126 = .ok (.iload_n 2, 1) := by decide +kernel
theorem dX4_changed_127 : decode cX4_changed 127 = .ok (.invokevirtual 68, 3) := by decide +kernel
theorem dX4_changed_130 : decode cX4_changed 130 = .ok (.istore 5, 2) := by decide +kernel
theorem dX4_changed_132 : decode cX4_changed 132 = .ok (.iload 5, 2) := by decide +kernel
theorem dX4_changed_134 : decode cX4_changed 134 = .ok (.ifCond .eq 8, 3) := by decide +kernel
theorem dX4_changed_137 : decode cX4_changed 137 = .ok (.iload 4, 2) := by decide +kernel
theorem dX4_changed_139 : decode cX4_changed 139 = .ok (.goto 4, 3) := by decide +kernel
theorem dX4_changed_142 : decode cX4_changed 142 = .ok (.iconst 0, 1) := by decide +kernel
theorem dX4_changed_143 : decode cX4_changed 143 = .ok (.ireturn, 1) := by decide +kernel
theorem dX4_isAt_0 : decode cX4_isAt 0 = .ok (.iconst 0, 1) := by decide +kernel
theorem dX4_isAt_1 : decode cX4_isAt 1 = .ok (.istore_n 3, 1) := by decide +kernel
theorem dX4_isAt_2 : decode cX4_isAt 2 = .ok (.iload_n 3, 1) := by decide +kernel
theorem dX4_isAt_3 : decode cX4_isAt 3 = .ok (.aload_n 0, 1) := by decide +kernel
theorem dX4_isAt_4 : decode cX4_isAt 4 = .ok (.getfield 72, 3) := by decide +kernel
theorem dX4_isAt_7 : decode cX4_isAt 7 = .ok (.if_icmp .ge 43, 3) := by decide +kernel
theorem dX4_isAt_10 : decode cX4_isAt 10 = .ok (.aload_n 0, 1) := by decide +kernel
theorem dX4_isAt_11 : decode cX4_isAt 11 = .ok (.iload_n 3, 1) := by decide +kernel
theorem dX4_isAt_12 : decode cX4_isAt 12 = .ok (.iconst 0, 1) := by decide +kernel
theorem dX4_isAt_13 : decode cX4_isAt 13 = .ok (.invokevirtual 78, 3) := by decide +kernel
theorem dX4_isAt_16 : decode cX4_isAt 16 = .ok (.iload_n 1, 1) := by decide +kernel
theorem dX4_isAt_17 : decode cX4_isAt 17 = .ok (.if_icmp .gt 27, 3) := by decide +kernel
theorem dX4_isAt_20 : decode cX4_isAt 20 = .ok (.iload_n 1, 1) := by decide +kernel
theorem dX4_isAt_21 : decode cX4_isAt 21 = .ok (.aload_n 0, 1) := by decide +kernel
theorem dX4_isAt_22 : decode cX4_isAt 22 = .ok (.iload_n 3, 1) := by decide +kernel
theorem dX4_isAt_23 : decode cX4_isAt 23 = .ok (.iconst 1, 1) := by decide +kernel
theorem dX4_isAt_24 : decode cX4_isAt 24 = .ok (.invokevirtual 78, 3) := by decide +kernel
theorem dX4_isAt_27 : decode cX4_isAt 27 = .ok (.if_icmp .ge 17, 3) := by decide +kernel
theorem dX4_isAt_30 : decode cX4_isAt 30 = .ok (.iload_n 2, 1) := by decide +kernel
theorem dX4_isAt_31 : decode cX4_isAt 31 = .ok (.iconst 1, 1) := by decide +kernel
theorem dX4_isAt_32 : decode cX4_isAt 32 = .ok (.iload_n 3, 1) := by decide +kernel
theorem dX4_isAt_33 : decode cX4_isAt 33 = .ok (.ishl, 1) := by decide +kernel
theorem dX4_isAt_34 : decode cX4_isAt 34 = .ok (.iand, 1) := by decide +kernel
theorem dX4_isAt_35 : decode cX4_isAt 35 = .ok (.ifCond .eq 7, 3) := by decide +kernel
theorem dX4_isAt_38 : decode cX4_isAt 38 = .ok (.iconst 1, 1) := by decide +kernel
theorem dX4_isAt_39 : decode cX4_isAt 39 = .ok (.goto 4, 3) := by decide +kernel
theorem dX4_isAt_42 : decode cX4_isAt 42 = .ok (.iconst 0, 1) := by decide +kernel
theorem dX4_isAt_43 : decode cX4_isAt 43 = .ok (.ireturn, 1) := by decide +kernel
theorem dX4_isAt_44 : decode cX4_isAt 44 = .ok (.iinc 3 1, 3) := by decide +kernel
theorem dX4_isAt_47 : decode cX4_isAt 47 = .ok (.goto (-45), 3) := by decide +kernel
theorem dX4_isAt_50 : decode cX4_isAt 50 = .ok (.iconst 0, 1) := by decide +kernel
theorem dX4_isAt_51 : decode cX4_isAt 51 = .ok (.ireturn, 1) := by decide +kernel
theorem dX4_thickness_0 : decode cX4_thickness 0 = .ok (.iconst 0, 1) := by decide +kernel
theorem dX4_thickness_1 : decode cX4_thickness 1 = .ok (.istore_n 2, 1) := by decide +kernel
theorem dX4_thickness_2 : decode cX4_thickness 2 = .ok (.iconst 0, 1) := by decide +kernel
theorem dX4_thickness_3 : decode cX4_thickness 3 = .ok (.istore_n 3, 1) := by decide +kernel
theorem dX4_thickness_4 : decode cX4_thickness 4 = .ok (.iload_n 3, 1) := by decide +kernel
theorem dX4_thickness_5 : decode cX4_thickness 5 = .ok (.aload_n 0, 1) := by decide +kernel
theorem dX4_thickness_6 : decode cX4_thickness 6 = .ok (.getfield 72, 3) := by decide +kernel
theorem dX4_thickness_9 : decode cX4_thickness 9 = .ok (.if_icmp .ge 33, 3) := by decide +kernel
theorem dX4_thickness_12 : decode cX4_thickness 12 = .ok (.iload_n 1, 1) := by decide +kernel
theorem dX4_thickness_13 : decode cX4_thickness 13 = .ok (.iconst 1, 1) := by decide +kernel
theorem dX4_thickness_14 : decode cX4_thickness 14 = .ok (.iload_n 3, 1) := by decide +kernel
theorem dX4_thickness_15 : decode cX4_thickness 15 = .ok (.ishl, 1) := by decide +kernel
theorem dX4_thickness_16 : decode cX4_thickness 16 = .ok (.iand, 1) := by decide +kernel
theorem dX4_thickness_17 : decode cX4_thickness 17 = .ok (.ifCond .eq 19, 3) := by decide +kernel
theorem dX4_thickness_20 : decode cX4_thickness 20 = .ok (.iload_n 2, 1) := by decide +kernel
theorem dX4_thickness_21 : decode cX4_thickness 21 = .ok (.aload_n 0, 1) := by decide +kernel
theorem dX4_thickness_22 : decode cX4_thickness 22 = .ok (.iload_n 3, 1) := by decide +kernel
theorem dX4_thickness_23 : decode cX4_thickness 23 = .ok (.iconst 1, 1) := by decide +kernel
theorem dX4_thickness_24 : decode cX4_thickness 24 = .ok (.invokevirtual 78, 3) := by decide +kernel
theorem dX4_thickness_27 : decode cX4_thickness 27 = .ok (.aload_n 0, 1) := by decide +kernel
theorem dX4_thickness_28 : decode cX4_thickness 28 = .ok (.iload_n 3, 1) := by decide +kernel
theorem dX4_thickness_29 : decode cX4_thickness 29 = .ok (.iconst 0, 1) := by decide +kernel
theorem dX4_thickness_30 : decode cX4_thickness 30 = .ok (.invokevirtual 78, 3) := by decide +kernel
theorem dX4_thickness_33 : decode cX4_thickness 33 = .ok (.isub, 1) := by decide +kernel
theorem dX4_thickness_34 : decode cX4_thickness 34 = .ok (.iadd, 1) := by decide +kernel
theorem dX4_thickness_35 : decode cX4_thickness 35 = .ok (.istore_n 2, 1) := by decide +kernel
theorem dX4_thickness_36 : decode cX4_thickness 36 = .ok (.iinc 3 1, 3) := by decide +kernel
theorem dX4_thickness_39 : decode cX4_thickness 39 = .ok (.goto (-35), 3) := by decide +kernel
theorem dX4_thickness_42 : decode cX4_thickness 42 = .ok (.iload_n 2, 1) := by decide +kernel
theorem dX4_thickness_43 : decode cX4_thickness 43 = .ok (.ireturn, 1) := by decide +kernel
theorem dX4_firstBegin_0 : decode cX4_firstBegin 0 = .ok (.iconst 0, 1) := by decide +kernel
theorem dX4_firstBegin_1 : decode cX4_firstBegin 1 = .ok (.istore_n 2, 1) := by decide +kernel
theorem dX4_firstBegin_2 : decode cX4_firstBegin 2 = .ok (.iload_n 2, 1) := by decide +kernel
theorem dX4_firstBegin_3 : decode cX4_firstBegin 3 = .ok (.aload_n 0, 1) := by decide +kernel
theorem dX4_firstBegin_4 : decode cX4_firstBegin 4 = .ok (.getfield 72, 3) := by decide +kernel
theorem dX4_firstBegin_7 : decode cX4_firstBegin 7 = .ok (.if_icmp .ge 24, 3) := by decide +kernel
theorem dX4_firstBegin_10 : decode cX4_firstBegin 10 = .ok (.iload_n 1, 1) := by decide +kernel
theorem dX4_firstBegin_11 : decode cX4_firstBegin 11 = .ok (.iconst 1, 1) := by decide +kernel
theorem dX4_firstBegin_12 : decode cX4_firstBegin 12 = .ok (.iload_n 2, 1) := by decide +kernel
theorem dX4_firstBegin_13 : decode cX4_firstBegin 13 = .ok (.ishl, 1) := by decide +kernel
theorem dX4_firstBegin_14 : decode cX4_firstBegin 14 = .ok (.iand, 1) := by decide +kernel
theorem dX4_firstBegin_15 : decode cX4_firstBegin 15 = .ok (.ifCond .eq 10, 3) := by decide +kernel
theorem dX4_firstBegin_18 : decode cX4_firstBegin 18 = .ok (.aload_n 0, 1) := by decide +kernel
theorem dX4_firstBegin_19 : decode cX4_firstBegin 19 = .ok (.iload_n 2, 1) := by decide +kernel
theorem dX4_firstBegin_20 : decode cX4_firstBegin 20 = .ok (.iconst 0, 1) := by decide +kernel
theorem dX4_firstBegin_21 : decode cX4_firstBegin 21 = .ok (.invokevirtual 78, 3) := by decide +kernel
theorem dX4_firstBegin_24 : decode cX4_firstBegin 24 = .ok (.ireturn, 1) := by decide +kernel
theorem dX4_firstBegin_25 : decode cX4_firstBegin 25 = .ok (.iinc 2 1, 3) := by decide +kernel
theorem dX4_firstBegin_28 : decode cX4_firstBegin 28 = .ok (.goto (-26), 3) := by decide +kernel
theorem dX4_firstBegin_31 : decode cX4_firstBegin 31 = .ok (.sipush 999, 3) := by decide +kernel
theorem dX4_firstBegin_34 : decode cX4_firstBegin 34 = .ok (.ireturn, 1) := by decide +kernel
theorem dX4_compares_0 : decode cX4_compares 0 = .ok (.aload_n 0, 1) := by decide +kernel
theorem dX4_compares_1 : decode cX4_compares 1 = .ok (.getfield 15, 3) := by decide +kernel
theorem dX4_compares_4 : decode cX4_compares 4 = .ok (.iload_n 2, 1) := by decide +kernel
theorem dX4_compares_5 : decode cX4_compares 5 = .ok (.iaload, 1) := by decide +kernel
theorem dX4_compares_6 : decode cX4_compares 6 = .ok (.lookupswitch 106 #[(60, 42), (61, 74), (316, 58), (318, 90)], 42) := by decide +kernel
theorem dX4_compares_48 : decode cX4_compares 48 = .ok (.iload_n 1, 1) := by decide +kernel
theorem dX4_compares_49 : decode cX4_compares 49 = .ok (.aload_n 0, 1) := by decide +kernel
theorem dX4_compares_50 : decode cX4_compares 50 = .ok (.getfield 18, 3) := by decide +kernel
theorem dX4_compares_53 : decode cX4_compares 53 = .ok (.iload_n 2, 1) := by decide +kernel
theorem dX4_compares_54 : decode cX4_compares 54 = .ok (.iaload, 1) := by decide +kernel
theorem dX4_compares_55 : decode cX4_compares 55 = .ok (.if_icmp .ge 7, 3) := by decide +kernel
theorem dX4_compares_58 : decode cX4_compares 58 = .ok (.iconst 1, 1) := by decide +kernel
theorem dX4_compares_59 : decode cX4_compares 59 = .ok (.goto 4, 3) := by decide +kernel
theorem dX4_compares_62 : decode cX4_compares 62 = .ok (.iconst 0, 1) := by decide +kernel
theorem dX4_compares_63 : decode cX4_compares 63 = .ok (.ireturn, 1) := by decide +kernel
theorem dX4_compares_64 : decode cX4_compares 64 = .ok (.iload_n 1, 1) := by decide +kernel
theorem dX4_compares_65 : decode cX4_compares 65 = .ok (.aload_n 0, 1) := by decide +kernel
theorem dX4_compares_66 : decode cX4_compares 66 = .ok (.getfield 18, 3) := by decide +kernel
theorem dX4_compares_69 : decode cX4_compares 69 = .ok (.iload_n 2, 1) := by decide +kernel
theorem dX4_compares_70 : decode cX4_compares 70 = .ok (.iaload, 1) := by decide +kernel
theorem dX4_compares_71 : decode cX4_compares 71 = .ok (.if_icmp .gt 7, 3) := by decide +kernel
theorem dX4_compares_74 : decode cX4_compares 74 = .ok (.iconst 1, 1) := by decide +kernel
theorem dX4_compares_75 : decode cX4_compares 75 = .ok (.goto 4, 3) := by decide +kernel
theorem dX4_compares_78 : decode cX4_compares 78 = .ok (.iconst 0, 1) := by decide +kernel
theorem dX4_compares_79 : decode cX4_compares 79 = .ok (.ireturn, 1) := by decide +kernel
theorem dX4_compares_80 : decode cX4_compares 80 = .ok (.iload_n 1, 1) := by decide +kernel
theorem dX4_compares_81 : decode cX4_compares 81 = .ok (.aload_n 0, 1) := by decide +kernel
theorem dX4_compares_82 : decode cX4_compares 82 = .ok (.getfield 18, 3) := by decide +kernel
theorem dX4_compares_85 : decode cX4_compares 85 = .ok (.iload_n 2, 1) := by decide +kernel
theorem dX4_compares_86 : decode cX4_compares 86 = .ok (.iaload, 1) := by decide +kernel
theorem dX4_compares_87 : decode cX4_compares 87 = .ok (.if_icmp .ne 7, 3) := by decide +kernel
theorem dX4_compares_90 : decode cX4_compares 90 = .ok (.iconst 1, 1) := by decide +kernel
theorem dX4_compares_91 : decode cX4_compares 91 = .ok (.goto 4, 3) := by decide +kernel
theorem dX4_compares_94 : decode cX4_compares 94 = .ok (.iconst 0, 1) := by decide +kernel
theorem dX4_compares_95 : decode cX4_compares 95 = .ok (.ireturn, 1) := by decide +kernel
theorem dX4_compares_96 : decode cX4_compares 96 = .ok (.iload_n 1, 1) := by decide +kernel
theorem dX4_compares_97 : decode cX4_compares 97 = .ok (.aload_n 0, 1) := by decide +kernel
theorem dX4_compares_98 : decode cX4_compares 98 = .ok (.getfield 18, 3) := by decide +kernel
theorem dX4_compares_101 : decode cX4_compares 101 = .ok (.iload_n 2, 1) := by decide +kernel
theorem dX4_compares_102 : decode cX4_compares 102 = .ok (.iaload, 1) := by decide +kernel
theorem dX4_compares_103 : decode cX4_compares 103 = .ok (.if_icmp .lt 7, 3) := by decide +kernel
theorem dX4_compares_106 : decode cX4_compares 106 = .ok (.iconst 1, 1) := by decide +kernel
theorem dX4_compares_107 : decode cX4_compares 107 = .ok (.goto 4, 3) := by decide +kernel
theorem dX4_compares_110 : decode cX4_compares 110 = .ok (.iconst 0, 1) := by decide +kernel
theorem dX4_compares_111 : decode cX4_compares 111 = .ok (.ireturn, 1) := by decide +kernel
theorem dX4_compares_112 : decode cX4_compares 112 = .ok (.iload_n 1, 1) := by decide +kernel
theorem dX4_compares_113 : decode cX4_compares 113 = .ok (.aload_n 0, 1) := by decide +kernel
theorem dX4_compares_114 : decode cX4_compares 114 = .ok (.getfield 18, 3) := by decide +kernel
theorem dX4_compares_117 : decode cX4_compares 117 = .ok (.iload_n 2, 1) := by decide +kernel
theorem dX4_compares_118 : decode cX4_compares 118 = .ok (.iaload, 1) := by decide +kernel
theorem dX4_compares_119 : decode cX4_compares 119 = .ok (.if_icmp .le 7, 3) := by decide +kernel
theorem dX4_compares_122 : decode cX4_compares 122 = .ok (.iconst 1, 1) := by decide +kernel
theorem dX4_compares_123 : decode cX4_compares 123 = .ok (.goto 4, 3) := by decide +kernel
theorem dX4_compares_126 : decode cX4_compares 126 = .ok (.iconst 0, 1) := by decide +kernel
theorem dX4_compares_127 : decode cX4_compares 127 = .ok (.ireturn, 1) := by decide +kernel
theorem dX5_init_0 : decode cX5_init 0 = .ok (.aload_n 0, 1) := by decide +kernel
theorem dX5_init_1 : decode cX5_init 1 = .ok (.invokespecial 3, 3) := by decide +kernel
theorem dX5_init_4 : decode cX5_init 4 = .ok (.aload_n 0, 1) := by decide +kernel
theorem dX5_init_5 : decode cX5_init 5 = .ok (.new 9, 3) := by decide +kernel
theorem dX5_init_8 : decode cX5_init 8 = .ok (.dup, 1) := by decide +kernel
theorem dX5_init_9 : decode cX5_init 9 = .ok (.invokespecial 11, 3) := by decide +kernel
theorem dX5_init_12 : decode cX5_init 12 = .ok (.putfield 12, 3) := by decide +kernel
theorem dX5_init_15 : decode cX5_init 15 = .ok (.aload_n 0, 1) := by decide +kernel
theorem dX5_init_16 : decode cX5_init 16 = .ok (.aload_n 1, 1) := by decide +kernel
theorem dX5_init_17 : decode cX5_init 17 = .ok (.putfield 18, 3) := by decide +kernel
theorem dX5_init_20 : decode cX5_init 20 = .ok (.return_, 1) := by decide +kernel
theorem dX5_handOver_0 : decode cX5_handOver 0 = .ok (.aload_n 0, 1) := by decide +kernel
theorem dX5_handOver_1 : decode cX5_handOver 1 = .ok (.getfield 12, 3) := by decide +kernel
theorem dX5_handOver_4 : decode cX5_handOver 4 = .ok (.astore_n 2, 1) := by decide +kernel
theorem dX5_handOver_5 : decode cX5_handOver 5 = .ok (.aload_n 0, 1) := by decide +kernel
theorem dX5_handOver_6 : decode cX5_handOver 6 = .ok (.aload_n 1, 1) := by decide +kernel
theorem dX5_handOver_7 : decode cX5_handOver 7 = .ok (.putfield 12, 3) := by decide +kernel
theorem dX5_handOver_10 : decode cX5_handOver 10 = .ok (.aload_n 2, 1) := by decide +kernel
theorem dX5_handOver_11 : decode cX5_handOver 11 = .ok (.areturn, 1) := by decide +kernel
theorem dX5_readKey_0 : decode cX5_readKey 0 = .ok (.aload_n 0, 1) := by decide +kernel
theorem dX5_readKey_1 : decode cX5_readKey 1 = .ok (.getfield 12, 3) := by decide +kernel
theorem dX5_readKey_4 : decode cX5_readKey 4 = .ok (.invokevirtual 22, 3) := by decide +kernel
theorem dX5_readKey_7 : decode cX5_readKey 7 = .ok (.aload_n 0, 1) := by decide +kernel
theorem dX5_readKey_8 : decode cX5_readKey 8 = .ok (.iconst 0, 1) := by decide +kernel
theorem dX5_readKey_9 : decode cX5_readKey 9 = .ok (.putfield 25, 3) := by decide +kernel
theorem dX5_readKey_12 : decode cX5_readKey 12 = .ok (.iconst 0, 1) := by decide +kernel
theorem dX5_readKey_13 : decode cX5_readKey 13 = .ok (.istore_n 1, 1) := by decide +kernel
theorem dX5_readKey_14 : decode cX5_readKey 14 = .ok (.iload_n 1, 1) := by decide +kernel
theorem dX5_readKey_15 : decode cX5_readKey 15 = .ok (.bipush 16, 2) := by decide +kernel
theorem dX5_readKey_17 : decode cX5_readKey 17 = .ok (.if_icmp .gt 73, 3) := by decide +kernel
theorem dX5_readKey_20 : decode cX5_readKey 20 = .ok (.aload_n 0, 1) := by decide +kernel
theorem dX5_readKey_21 : decode cX5_readKey 21 = .ok (.getfield 18, 3) := by decide +kernel
theorem dX5_readKey_24 : decode cX5_readKey 24 = .ok (.getfield 29, 3) := by decide +kernel
theorem dX5_readKey_27 : decode cX5_readKey 27 = .ok (.ifCond .ne 5, 3) := by decide +kernel
theorem dX5_readKey_30 : decode cX5_readKey 30 = .ok (.iconst 1, 1) := by decide +kernel
theorem dX5_readKey_31 : decode cX5_readKey 31 = .ok (.ireturn, 1) := by decide +kernel
theorem dX5_readKey_32 : decode cX5_readKey 32 = .ok (.aload_n 0, 1) := by decide +kernel
theorem dX5_readKey_33 : decode cX5_readKey 33 = .ok (.invokevirtual 34, 3) := by decide +kernel
theorem dX5_readKey_36 : decode cX5_readKey 36 = .ok (.istore_n 2, 1) := by decide +kernel
theorem dX5_readKey_37 : decode cX5_readKey 37 = .ok (.iload_n 2, 1) := by decide +kernel
theorem dX5_readKey_38 : decode cX5_readKey 38 = .ok (.iconst (-1), 1) := by decide +kernel
theorem dX5_readKey_39 : decode cX5_readKey 39 = .ok (.if_icmp .eq 35, 3) := by decide +kernel
theorem dX5_readKey_42 : decode cX5_readKey 42 = .ok (.aload_n 0, 1) := by decide +kernel
theorem dX5_readKey_43 : decode cX5_readKey 43 = .ok (.getfield 18, 3) := by decide +kernel
theorem dX5_readKey_46 : decode cX5_readKey 46 = .ok (.bipush 58, 2) := by decide +kernel
theorem dX5_readKey_48 : decode cX5_readKey 48 = .ok (.invokevirtual 38, 3) := by decide +kernel
theorem dX5_readKey_51 : decode cX5_readKey 51 = .ok (.ifCond .eq 23, 3) := by decide +kernel
theorem dX5_readKey_54 : decode cX5_readKey 54 = .ok (.aload_n 0, 1) := by decide +kernel
theorem dX5_readKey_55 : decode cX5_readKey 55 = .ok (.iconst 0, 1) := by decide +kernel
theorem dX5_readKey_56 : decode cX5_readKey 56 = .ok (.invokevirtual 42, 3) := by decide +kernel
theorem dX5_readKey_59 : decode cX5_readKey 59 = .ok (.ifCond .eq 15, 3) := by decide +kernel
theorem dX5_readKey_62 : decode cX5_readKey 62 = .ok (.aload_n 0, 1) := by decide +kernel
theorem dX5_readKey_63 : decode cX5_readKey 63 = .ok (.getfield 18, 3) := by decide +kernel
theorem dX5_readKey_66 : decode cX5_readKey 66 = .ok (.bipush 59, 2) := by decide +kernel
theorem dX5_readKey_68 : decode cX5_readKey 68 = .ok (.invokevirtual 38, 3) := by decide +kernel
theorem dX5_readKey_71 : decode cX5_readKey 71 = .ok (.ifCond .ne 5, 3) := by decide +kernel
theorem dX5_readKey_74 : decode cX5_readKey 74 = .ok (.iconst 0, 1) := by decide +kernel
theorem dX5_readKey_75 : decode cX5_readKey 75 = .ok (.ireturn, 1) := by decide +kernel
theorem dX5_readKey_76 : decode cX5_readKey 76 = .ok (.aload_n 0, 1) := by decide +kernel
theorem dX5_readKey_77 : decode cX5_readKey 77 = .ok (.getfield 12, 3) := by decide +kernel
theorem dX5_readKey_80 : decode cX5_readKey 80 = .ok (.iload_n 2, 1) := by decide +kernel
theorem dX5_readKey_81 : decode cX5_readKey 81 = .ok (.invokevirtual 46, 3) := by decide +kernel
theorem dX5_readKey_84 : decode cX5_readKey 84 = .ok (.iinc 1 1, 3) := by decide +kernel
theorem dX5_readKey_87 : decode cX5_readKey 87 = .ok (.goto (-73), 3) := by decide +kernel
theorem dX5_readKey_90 : decode cX5_readKey 90 = .ok (.iconst 0, 1) := by decide +kernel
theorem dX5_readKey_91 : decode cX5_readKey 91 = .ok (.ireturn, 1) := by decide +kernel
theorem dX5_readKind_0 : decode cX5_readKind 0 = .ok (.iconst (-1), 1) := by decide +kernel
theorem dX5_readKind_1 : decode cX5_readKind 1 = .ok (.istore_n 1, 1) := by decide +kernel
theorem dX5_readKind_2 : decode cX5_readKind 2 = .ok (.aload_n 0, 1) := by decide +kernel
theorem dX5_readKind_3 : decode cX5_readKind 3 = .ok (.getfield 18, 3) := by decide +kernel
theorem dX5_readKind_6 : decode cX5_readKind 6 = .ok (.getfield 29, 3) := by decide +kernel
theorem dX5_readKind_9 : decode cX5_readKind 9 = .ok (.iconst 2, 1) := by decide +kernel
theorem dX5_readKind_10 : decode cX5_readKind 10 = .ok (.if_icmp .ne 14, 3) := by decide +kernel
theorem dX5_readKind_13 : decode cX5_readKind 13 = .ok (.aload_n 0, 1) := by decide +kernel
theorem dX5_readKind_14 : decode cX5_readKind 14 = .ok (.getfield 18, 3) := by decide +kernel
theorem dX5_readKind_17 : decode cX5_readKind 17 = .ok (.getfield 50, 3) := by decide +kernel
theorem dX5_readKind_20 : decode cX5_readKind 20 = .ok (.iconst (-1), 1) := by decide +kernel
theorem dX5_readKind_21 : decode cX5_readKind 21 = .ok (.if_icmp .eq 14, 3) := by decide +kernel
theorem dX5_readKind_24 : decode cX5_readKind 24 = .ok (.aload_n 0, 1) := by decide +kernel
theorem dX5_readKind_25 : decode cX5_readKind 25 = .ok (.getfield 18, 3) := by decide +kernel
theorem dX5_readKind_28 : decode cX5_readKind 28 = .ok (.iconst 1, 1) := by decide +kernel
theorem dX5_readKind_29 : decode cX5_readKind 29 = .ok (.invokevirtual 53, 3) := by decide +kernel
theorem dX5_readKind_32 : decode cX5_readKind 32 = .ok (.pop, 1) := by decide +kernel
theorem dX5_readKind_33 : decode cX5_readKind 33 = .ok (.iconst (-1), 1) := by decide +kernel
theorem dX5_readKind_34 : decode cX5_readKind 34 = .ok (.ireturn, 1) := by decide +kernel
theorem dX5_readKind_35 : decode cX5_readKind 35 = .ok (.aload_n 0, 1) := by decide +kernel
theorem dX5_readKind_36 : decode cX5_readKind 36 = .ok (.getfield 12, 3) := by decide +kernel
theorem dX5_readKind_39 : decode cX5_readKind 39 = .ok (.getfield 56, 3) := by decide +kernel
theorem dX5_readKind_42 : decode cX5_readKind 42 = .ok (.bipush 16, 2) := by decide +kernel
theorem dX5_readKind_44 : decode cX5_readKind 44 = .ok (.if_icmp .ge 18, 3) := by decide +kernel
theorem dX5_readKind_47 : decode cX5_readKind 47 = .ok (.aload_n 0, 1) := by decide +kernel
theorem dX5_readKind_48 : decode cX5_readKind 48 = .ok (.getfield 12, 3) := by decide +kernel
theorem dX5_readKind_51 : decode cX5_readKind 51 = .ok (.aload_n 0, 1) := by decide +kernel
theorem dX5_readKind_52 : decode cX5_readKind 52 = .ok (.getfield 18, 3) := by decide +kernel
theorem dX5_readKind_55 : decode cX5_readKind 55 = .ok (.getfield 59, 3) := by decide +kernel
theorem dX5_readKind_58 : decode cX5_readKind 58 = .ok (.invokevirtual 63, 3) := by decide +kernel
theorem dX5_readKind_61 : decode cX5_readKind 61 = .ok (.istore_n 1, 1) := by decide +kernel
theorem dX5_readKind_62 : decode cX5_readKind 62 = .ok (.iload_n 1, 1) := by decide +kernel
theorem dX5_readKind_63 : decode cX5_readKind 63 = .ok (.iconst (-1), 1) := by decide +kernel
theorem dX5_readKind_64 : decode cX5_readKind 64 = .ok (.if_icmp .ne 14, 3) := by decide +kernel
theorem dX5_readKind_67 : decode cX5_readKind 67 = .ok (.aload_n 0, 1) := by decide +kernel
theorem dX5_readKind_68 : decode cX5_readKind 68 = .ok (.getfield 18, 3) := by decide +kernel
theorem dX5_readKind_71 : decode cX5_readKind 71 = .ok (.iconst 2, 1) := by decide +kernel
theorem dX5_readKind_72 : decode cX5_readKind 72 = .ok (.invokevirtual 53, 3) := by decide +kernel
theorem dX5_readKind_75 : decode cX5_readKind 75 = .ok (.pop, 1) := by decide +kernel
theorem dX5_readKind_76 : decode cX5_readKind 76 = .ok (.iconst (-1), 1) := by decide +kernel
theorem dX5_readKind_77 : decode cX5_readKind 77 = .ok (.ireturn, 1) := by decide +kernel
theorem dX5_readKind_78 : decode cX5_readKind 78 = .ok (.aload_n 0, 1) := by decide +kernel
theorem dX5_readKind_79 : decode cX5_readKind 79 = .ok (.getfield 18, 3) := by decide +kernel
theorem dX5_readKind_82 : decode cX5_readKind 82 = .ok (.invokevirtual 67, 3) := by decide +kernel
theorem dX5_readKind_85 : decode cX5_readKind 85 = .ok (.iload_n 1, 1) := by decide +kernel
theorem dX5_readKind_86 : decode cX5_readKind 86 = .ok (.ireturn, 1) := by decide +kernel
theorem dX5_readEither_0 : decode cX5_readEither 0 = .ok (.aload_n 0, 1) := by decide +kernel
theorem dX5_readEither_1 : decode cX5_readEither 1 = .ok (.iload_n 1, 1) := by decide +kernel
theorem dX5_readEither_2 : decode cX5_readEither 2 = .ok (.invokevirtual 70, 3) := by decide +kernel
theorem dX5_readEither_5 : decode cX5_readEither 5 = .ok (.ifCond .ne 5, 3) := by decide +kernel
theorem dX5_readEither_8 : decode cX5_readEither 8 = .ok (.iconst 0, 1) := by decide +kernel
theorem dX5_readEither_9 : decode cX5_readEither 9 = .ok (.ireturn, 1) := by decide +kernel
theorem dX5_readEither_10 : decode cX5_readEither 10 = .ok (.iconst 0, 1) := by decide +kernel
theorem dX5_readEither_11 : decode cX5_readEither 11 = .ok (.istore_n 2, 1) := by decide +kernel
theorem dX5_readEither_12 : decode cX5_readEither 12 = .ok (.iload_n 2, 1) := by decide +kernel
theorem dX5_readEither_13 : decode cX5_readEither 13 = .ok (.bipush 96, 2) := by decide +kernel
theorem dX5_readEither_15 : decode cX5_readEither 15 = .ok (.if_icmp .ge 50, 3) := by decide +kernel
theorem dX5_readEither_18 : decode cX5_readEither 18 = .ok (.aload_n 0, 1) := by decide +kernel
theorem dX5_readEither_19 : decode cX5_readEither 19 = .ok (.getfield 18, 3) := by decide +kernel
theorem dX5_readEither_22 : decode cX5_readEither 22 = .ok (.bipush 14, 2) := by decide +kernel
theorem dX5_readEither_24 : decode cX5_readEither 24 = .ok (.iconst 1, 1) := by decide +kernel
theorem dX5_readEither_25 : decode cX5_readEither 25 = .ok (.invokevirtual 73, 3) := by decide +kernel
theorem dX5_readEither_28 : decode cX5_readEither 28 = .ok (.ifCond .eq 37, 3) := by decide +kernel
theorem dX5_readEither_31 : decode cX5_readEither 31 = .ok (.aload_n 0, 1) := by decide +kernel
theorem dX5_readEither_32 : decode cX5_readEither 32 = .ok (.invokevirtual 77, 3) := by decide +kernel
theorem dX5_readEither_35 : decode cX5_readEither 35 = .ok (.ifCond .eq 11, 3) := by decide +kernel
theorem dX5_readEither_38 : decode cX5_readEither 38 = .ok (.aload_n 0, 1) := by decide +kernel
theorem dX5_readEither_39 : decode cX5_readEither 39 = .ok (.iload_n 1, 1) := by decide +kernel
theorem dX5_readEither_40 : decode cX5_readEither 40 = .ok (.invokevirtual 70, 3) := by decide +kernel
theorem dX5_readEither_43 : decode cX5_readEither 43 = .ok (.ifCond .ne 5, 3) := by decide +kernel
theorem dX5_readEither_46 : decode cX5_readEither 46 = .ok (.iconst 0, 1) := by decide +kernel
theorem dX5_readEither_47 : decode cX5_readEither 47 = .ok (.ireturn, 1) := by decide +kernel
theorem dX5_readEither_48 : decode cX5_readEither 48 = .ok (.aload_n 0, 1) := by decide +kernel
theorem dX5_readEither_49 : decode cX5_readEither 49 = .ok (.getfield 12, 3) := by decide +kernel
theorem dX5_readEither_52 : decode cX5_readEither 52 = .ok (.bipush 14, 2) := by decide +kernel
theorem dX5_readEither_54 : decode cX5_readEither 54 = .ok (.iconst 0, 1) := by decide +kernel
theorem dX5_readEither_55 : decode cX5_readEither 55 = .ok (.iconst 0, 1) := by decide +kernel
theorem dX5_readEither_56 : decode cX5_readEither 56 = .ok (.invokevirtual 81, 3) := by decide +kernel
theorem dX5_readEither_59 : decode cX5_readEither 59 = .ok (.iinc 2 1, 3) := by decide +kernel
theorem dX5_readEither_62 : decode cX5_readEither 62 = .ok (.goto (-50), 3) := by decide +kernel
theorem dX5_readEither_65 : decode cX5_readEither 65 = .ok (.iconst 1, 1) := by decide +kernel
theorem dX5_readEither_66 : decode cX5_readEither 66 = .ok (.ireturn, 1) := by decide +kernel
theorem dX5_readBoth_0 : decode cX5_readBoth 0 = .ok (.aload_n 0, 1) := by decide +kernel
theorem dX5_readBoth_1 : decode cX5_readBoth 1 = .ok (.iload_n 1, 1) := by decide +kernel
theorem dX5_readBoth_2 : decode cX5_readBoth 2 = .ok (.invokevirtual 85, 3) := by decide +kernel
theorem dX5_readBoth_5 : decode cX5_readBoth 5 = .ok (.ifCond .ne 5, 3) := by decide +kernel
theorem dX5_readBoth_8 : decode cX5_readBoth 8 = .ok (.iconst 0, 1) := by decide +kernel
theorem dX5_readBoth_9 : decode cX5_readBoth 9 = .ok (.ireturn, 1) := by decide +kernel
theorem dX5_readBoth_10 : decode cX5_readBoth 10 = .ok (.iconst 0, 1) := by decide +kernel
theorem dX5_readBoth_11 : decode cX5_readBoth 11 = .ok (.istore_n 2, 1) := by decide +kernel
theorem dX5_readBoth_12 : decode cX5_readBoth 12 = .ok (.iload_n 2, 1) := by decide +kernel
theorem dX5_readBoth_13 : decode cX5_readBoth 13 = .ok (.bipush 96, 2) := by decide +kernel
theorem dX5_readBoth_15 : decode cX5_readBoth 15 = .ok (.if_icmp .ge 50, 3) := by decide +kernel
theorem dX5_readBoth_18 : decode cX5_readBoth 18 = .ok (.aload_n 0, 1) := by decide +kernel
theorem dX5_readBoth_19 : decode cX5_readBoth 19 = .ok (.getfield 18, 3) := by decide +kernel
theorem dX5_readBoth_22 : decode cX5_readBoth 22 = .ok (.bipush 15, 2) := by decide +kernel
theorem dX5_readBoth_24 : decode cX5_readBoth 24 = .ok (.iconst 1, 1) := by decide +kernel
theorem dX5_readBoth_25 : decode cX5_readBoth 25 = .ok (.invokevirtual 73, 3) := by decide +kernel
theorem dX5_readBoth_28 : decode cX5_readBoth 28 = .ok (.ifCond .eq 37, 3) := by decide +kernel
theorem dX5_readBoth_31 : decode cX5_readBoth 31 = .ok (.aload_n 0, 1) := by decide +kernel
theorem dX5_readBoth_32 : decode cX5_readBoth 32 = .ok (.invokevirtual 77, 3) := by decide +kernel
theorem dX5_readBoth_35 : decode cX5_readBoth 35 = .ok (.ifCond .eq 11, 3) := by decide +kernel
theorem dX5_readBoth_38 : decode cX5_readBoth 38 = .ok (.aload_n 0, 1) := by decide +kernel
theorem dX5_readBoth_39 : decode cX5_readBoth 39 = .ok (.iload_n 1, 1) := by decide +kernel
theorem dX5_readBoth_40 : decode cX5_readBoth 40 = .ok (.invokevirtual 85, 3) := by decide +kernel
theorem dX5_readBoth_43 : decode cX5_readBoth 43 = .ok (.ifCond .ne 5, 3) := by decide +kernel
theorem dX5_readBoth_46 : decode cX5_readBoth 46 = .ok (.iconst 0, 1) := by decide +kernel
theorem dX5_readBoth_47 : decode cX5_readBoth 47 = .ok (.ireturn, 1) := by decide +kernel
theorem dX5_readBoth_48 : decode cX5_readBoth 48 = .ok (.aload_n 0, 1) := by decide +kernel
theorem dX5_readBoth_49 : decode cX5_readBoth 49 = .ok (.getfield 12, 3) := by decide +kernel
theorem dX5_readBoth_52 : decode cX5_readBoth 52 = .ok (.bipush 15, 2) := by decide +kernel
theorem dX5_readBoth_54 : decode cX5_readBoth 54 = .ok (.iconst 0, 1) := by decide +kernel
theorem dX5_readBoth_55 : decode cX5_readBoth 55 = .ok (.iconst 0, 1) := by decide +kernel
theorem dX5_readBoth_56 : decode cX5_readBoth 56 = .ok (.invokevirtual 81, 3) := by decide +kernel
theorem dX5_readBoth_59 : decode cX5_readBoth 59 = .ok (.iinc 2 1, 3) := by decide +kernel
theorem dX5_readBoth_62 : decode cX5_readBoth 62 = .ok (.goto (-50), 3) := by decide +kernel
theorem dX5_readBoth_65 : decode cX5_readBoth 65 = .ok (.iconst 1, 1) := by decide +kernel
theorem dX5_readBoth_66 : decode cX5_readBoth 66 = .ok (.ireturn, 1) := by decide +kernel
theorem dX5_readMaybeNot_0 : decode cX5_readMaybeNot 0 = .ok (.iconst 0, 1) := by decide +kernel
theorem dX5_readMaybeNot_1 : decode cX5_readMaybeNot 1 = .ok (.istore_n 2, 1) := by decide +kernel
theorem dX5_readMaybeNot_2 : decode cX5_readMaybeNot 2 = .ok (.iload_n 2, 1) := by decide +kernel
theorem dX5_readMaybeNot_3 : decode cX5_readMaybeNot 3 = .ok (.bipush 96, 2) := by decide +kernel
theorem dX5_readMaybeNot_5 : decode cX5_readMaybeNot 5 = .ok (.if_icmp .gt 31, 3) := by decide +kernel
theorem dX5_readMaybeNot_8 : decode cX5_readMaybeNot 8 = .ok (.aload_n 0, 1) := by decide +kernel
theorem dX5_readMaybeNot_9 : decode cX5_readMaybeNot 9 = .ok (.getfield 18, 3) := by decide +kernel
theorem dX5_readMaybeNot_12 : decode cX5_readMaybeNot 12 = .ok (.bipush 16, 2) := by decide +kernel
theorem dX5_readMaybeNot_14 : decode cX5_readMaybeNot 14 = .ok (.iconst 1, 1) := by decide +kernel
theorem dX5_readMaybeNot_15 : decode cX5_readMaybeNot 15 = .ok (.invokevirtual 73, 3) := by decide +kernel
theorem dX5_readMaybeNot_18 : decode cX5_readMaybeNot 18 = .ok (.ifCond .eq 18, 3) := by decide +kernel
theorem dX5_readMaybeNot_21 : decode cX5_readMaybeNot 21 = .ok (.aload_n 0, 1) := by decide +kernel
theorem dX5_readMaybeNot_22 : decode cX5_readMaybeNot 22 = .ok (.invokevirtual 77, 3) := by decide +kernel
theorem dX5_readMaybeNot_25 : decode cX5_readMaybeNot 25 = .ok (.ifCond .ne 5, 3) := by decide +kernel
theorem dX5_readMaybeNot_28 : decode cX5_readMaybeNot 28 = .ok (.iconst 0, 1) := by decide +kernel
theorem dX5_readMaybeNot_29 : decode cX5_readMaybeNot 29 = .ok (.ireturn, 1) := by decide +kernel
theorem dX5_readMaybeNot_30 : decode cX5_readMaybeNot 30 = .ok (.iinc 2 1, 3) := by decide +kernel
theorem dX5_readMaybeNot_33 : decode cX5_readMaybeNot 33 = .ok (.goto (-31), 3) := by decide +kernel
theorem dX5_readMaybeNot_36 : decode cX5_readMaybeNot 36 = .ok (.aload_n 0, 1) := by decide +kernel
theorem dX5_readMaybeNot_37 : decode cX5_readMaybeNot 37 = .ok (.getfield 18, 3) := by decide +kernel
theorem dX5_readMaybeNot_40 : decode cX5_readMaybeNot 40 = .ok (.bipush 40, 2) := by decide +kernel
theorem dX5_readMaybeNot_42 : decode cX5_readMaybeNot 42 = .ok (.invokevirtual 88, 3) := by decide +kernel
theorem dX5_readMaybeNot_45 : decode cX5_readMaybeNot 45 = .ok (.ifCond .eq 11, 3) := by decide +kernel
theorem dX5_readMaybeNot_48 : decode cX5_readMaybeNot 48 = .ok (.aload_n 0, 1) := by decide +kernel
theorem dX5_readMaybeNot_49 : decode cX5_readMaybeNot 49 = .ok (.iload_n 1, 1) := by decide +kernel
theorem dX5_readMaybeNot_50 : decode cX5_readMaybeNot 50 = .ok (.invokevirtual 91, 3) := by decide +kernel
theorem dX5_readMaybeNot_53 : decode cX5_readMaybeNot 53 = .ok (.goto 18, 3) := by decide +kernel
theorem dX5_readMaybeNot_56 : decode cX5_readMaybeNot 56 = .ok (.iload_n 1, 1) := by decide +kernel
theorem dX5_readMaybeNot_57 : decode cX5_readMaybeNot 57 = .ok (.ifCond .eq 10, 3) := by decide +kernel
theorem dX5_readMaybeNot_60 : decode cX5_readMaybeNot 60 = .ok (.aload_n 0, 1) := by decide +kernel
theorem dX5_readMaybeNot_61 : decode cX5_readMaybeNot 61 = .ok (.invokevirtual 94, 3) := by decide +kernel
theorem dX5_readMaybeNot_64 : decode cX5_readMaybeNot 64 = .ok (.goto 7, 3) := by decide +kernel
theorem dX5_readMaybeNot_67 : decode cX5_readMaybeNot 67 = .ok (.aload_n 0, 1) := by decide +kernel
theorem dX5_readMaybeNot_68 : decode cX5_readMaybeNot 68 = .ok (.invokevirtual 97, 3) := by decide +kernel
theorem dX5_readMaybeNot_71 : decode cX5_readMaybeNot 71 = .ok (.istore_n 3, 1) := by decide +kernel
theorem dX5_readMaybeNot_72 : decode cX5_readMaybeNot 72 = .ok (.iload_n 3, 1) := by decide +kernel
theorem dX5_readMaybeNot_73 : decode cX5_readMaybeNot 73 = .ok (.ifCond .eq 21, 3) := by decide +kernel
theorem dX5_readMaybeNot_76 : decode cX5_readMaybeNot 76 = .ok (.iload_n 2, 1) := by decide +kernel
theorem dX5_readMaybeNot_77 : decode cX5_readMaybeNot 77 = .ok (.iconst 2, 1) := by decide +kernel
theorem dX5_readMaybeNot_78 : decode cX5_readMaybeNot 78 = .ok (.irem, 1) := by decide +kernel
theorem dX5_readMaybeNot_79 : decode cX5_readMaybeNot 79 = .ok (.iconst 1, 1) := by decide +kernel
theorem dX5_readMaybeNot_80 : decode cX5_readMaybeNot 80 = .ok (.if_icmp .ne 14, 3) := by decide +kernel
theorem dX5_readMaybeNot_83 : decode cX5_readMaybeNot 83 = .ok (.aload_n 0, 1) := by decide +kernel
theorem dX5_readMaybeNot_84 : decode cX5_readMaybeNot 84 = .ok (.getfield 12, 3) := by decide +kernel
theorem dX5_readMaybeNot_87 : decode cX5_readMaybeNot 87 = .ok (.bipush 16, 2) := by decide +kernel
theorem dX5_readMaybeNot_89 : decode cX5_readMaybeNot 89 = .ok (.iconst 0, 1) := by decide +kernel
theorem dX5_readMaybeNot_90 : decode cX5_readMaybeNot 90 = .ok (.iconst 0, 1) := by decide +kernel
theorem dX5_readMaybeNot_91 : decode cX5_readMaybeNot 91 = .ok (.invokevirtual 81, 3) := by decide +kernel
theorem dX5_readMaybeNot_94 : decode cX5_readMaybeNot 94 = .ok (.iload_n 3, 1) := by decide +kernel
theorem dX5_readMaybeNot_95 : decode cX5_readMaybeNot 95 = .ok (.ireturn, 1) := by decide +kernel
theorem dX5_readBracket_0 : decode cX5_readBracket 0 = .ok (.aload_n 0, 1) := by decide +kernel
theorem dX5_readBracket_1 : decode cX5_readBracket 1 = .ok (.getfield 18, 3) := by decide +kernel
theorem dX5_readBracket_4 : decode cX5_readBracket 4 = .ok (.bipush 40, 2) := by decide +kernel
theorem dX5_readBracket_6 : decode cX5_readBracket 6 = .ok (.invokevirtual 88, 3) := by decide +kernel
theorem dX5_readBracket_9 : decode cX5_readBracket 9 = .ok (.ifCond .eq 21, 3) := by decide +kernel
theorem dX5_readBracket_12 : decode cX5_readBracket 12 = .ok (.aload_n 0, 1) := by decide +kernel
theorem dX5_readBracket_13 : decode cX5_readBracket 13 = .ok (.getfield 25, 3) := by decide +kernel
theorem dX5_readBracket_16 : decode cX5_readBracket 16 = .ok (.bipush 8, 2) := by decide +kernel
theorem dX5_readBracket_18 : decode cX5_readBracket 18 = .ok (.if_icmp .lt 12, 3) := by decide +kernel
theorem dX5_readBracket_21 : decode cX5_readBracket 21 = .ok (.aload_n 0, 1) := by decide +kernel
theorem dX5_readBracket_22 : decode cX5_readBracket 22 = .ok (.getfield 18, 3) := by decide +kernel
theorem dX5_readBracket_25 : decode cX5_readBracket 25 = .ok (.iconst 2, 1) := by decide +kernel
theorem dX5_readBracket_26 : decode cX5_readBracket 26 = .ok (.invokevirtual 53, 3) := by decide +kernel
theorem dX5_readBracket_29 : decode cX5_readBracket 29 = .ok (.ireturn, 1) := by decide +kernel
theorem dX5_readBracket_30 : decode cX5_readBracket 30 = .ok (.aload_n 0, 1) := by decide +kernel
theorem dX5_readBracket_31 : decode cX5_readBracket 31 = .ok (.getfield 18, 3) := by decide +kernel
theorem dX5_readBracket_34 : decode cX5_readBracket 34 = .ok (.bipush 40, 2) := by decide +kernel
theorem dX5_readBracket_36 : decode cX5_readBracket 36 = .ok (.invokevirtual 38, 3) := by decide +kernel
theorem dX5_readBracket_39 : decode cX5_readBracket 39 = .ok (.ifCond .ne 5, 3) := by decide +kernel
theorem dX5_readBracket_42 : decode cX5_readBracket 42 = .ok (.iconst 0, 1) := by decide +kernel
theorem dX5_readBracket_43 : decode cX5_readBracket 43 = .ok (.ireturn, 1) := by decide +kernel
theorem dX5_readBracket_44 : decode cX5_readBracket 44 = .ok (.aload_n 0, 1) := by decide +kernel
theorem dX5_readBracket_45 : decode cX5_readBracket 45 = .ok (.dup, 1) := by decide +kernel
theorem dX5_readBracket_46 : decode cX5_readBracket 46 = .ok (.getfield 25, 3) := by decide +kernel
theorem dX5_readBracket_49 : decode cX5_readBracket 49 = .ok (.iconst 1, 1) := by decide +kernel
theorem dX5_readBracket_50 : decode cX5_readBracket 50 = .ok (.iadd, 1) := by decide +kernel
theorem dX5_readBracket_51 : decode cX5_readBracket 51 = .ok (.putfield 25, 3) := by decide +kernel
theorem dX5_readBracket_54 : decode cX5_readBracket 54 = .ok (.aload_n 0, 1) := by decide +kernel
theorem dX5_readBracket_55 : decode cX5_readBracket 55 = .ok (.iload_n 1, 1) := by decide +kernel
theorem dX5_readBracket_56 : decode cX5_readBracket 56 = .ok (.invokevirtual 42, 3) := by decide +kernel
theorem dX5_readBracket_59 : decode cX5_readBracket 59 = .ok (.ifCond .eq 19, 3) := by decide +kernel
theorem dX5_readBracket_62 : decode cX5_readBracket 62 = .ok (.aload_n 0, 1) := by decide +kernel
theorem dX5_readBracket_63 : decode cX5_readBracket 63 = .ok (.getfield 18, 3) := by decide +kernel
theorem dX5_readBracket_66 : decode cX5_readBracket 66 = .ok (.bipush 41, 2) := by decide +kernel
theorem dX5_readBracket_68 : decode cX5_readBracket 68 = .ok (.invokevirtual 38, 3) := by decide +kernel
theorem dX5_readBracket_71 : decode cX5_readBracket 71 = .ok (.ifCond .eq 7, 3) := by decide +kernel
theorem dX5_readBracket_74 : decode cX5_readBracket 74 = .ok (.iconst 1, 1) := by decide +kernel
theorem dX5_readBracket_75 : decode cX5_readBracket 75 = .ok (.goto 4, 3) := by decide +kernel
theorem dX5_readBracket_78 : decode cX5_readBracket 78 = .ok (.iconst 0, 1) := by decide +kernel
theorem dX5_readBracket_79 : decode cX5_readBracket 79 = .ok (.istore_n 2, 1) := by decide +kernel
theorem dX5_readBracket_80 : decode cX5_readBracket 80 = .ok (.aload_n 0, 1) := by decide +kernel
theorem dX5_readBracket_81 : decode cX5_readBracket 81 = .ok (.dup, 1) := by decide +kernel
theorem dX5_readBracket_82 : decode cX5_readBracket 82 = .ok (.getfield 25, 3) := by decide +kernel
theorem dX5_readBracket_85 : decode cX5_readBracket 85 = .ok (.iconst 1, 1) := by decide +kernel
theorem dX5_readBracket_86 : decode cX5_readBracket 86 = .ok (.isub, 1) := by decide +kernel
theorem dX5_readBracket_87 : decode cX5_readBracket 87 = .ok (.putfield 25, 3) := by decide +kernel
theorem dX5_readBracket_90 : decode cX5_readBracket 90 = .ok (.iload_n 2, 1) := by decide +kernel
theorem dX5_readBracket_91 : decode cX5_readBracket 91 = .ok (.ireturn, 1) := by decide +kernel
theorem dX5_readOfLayer_0 : decode cX5_readOfLayer 0 = .ok (.aload_n 0, 1) := by decide +kernel
theorem dX5_readOfLayer_1 : decode cX5_readOfLayer 1 = .ok (.getfield 18, 3) := by decide +kernel
theorem dX5_readOfLayer_4 : decode cX5_readOfLayer 4 = .ok (.bipush 12, 2) := by decide +kernel
theorem dX5_readOfLayer_6 : decode cX5_readOfLayer 6 = .ok (.iconst 1, 1) := by decide +kernel
theorem dX5_readOfLayer_7 : decode cX5_readOfLayer 7 = .ok (.invokevirtual 73, 3) := by decide +kernel
theorem dX5_readOfLayer_10 : decode cX5_readOfLayer 10 = .ok (.ifCond .ne 16, 3) := by decide +kernel
theorem dX5_readOfLayer_13 : decode cX5_readOfLayer 13 = .ok (.aload_n 0, 1) := by decide +kernel
theorem dX5_readOfLayer_14 : decode cX5_readOfLayer 14 = .ok (.getfield 18, 3) := by decide +kernel
theorem dX5_readOfLayer_17 : decode cX5_readOfLayer 17 = .ok (.bipush 13, 2) := by decide +kernel
theorem dX5_readOfLayer_19 : decode cX5_readOfLayer 19 = .ok (.iconst 1, 1) := by decide +kernel
theorem dX5_readOfLayer_20 : decode cX5_readOfLayer 20 = .ok (.invokevirtual 73, 3) := by decide +kernel
theorem dX5_readOfLayer_23 : decode cX5_readOfLayer 23 = .ok (.ifCond .eq 7, 3) := by decide +kernel
theorem dX5_readOfLayer_26 : decode cX5_readOfLayer 26 = .ok (.iconst 1, 1) := by decide +kernel
theorem dX5_readOfLayer_27 : decode cX5_readOfLayer 27 = .ok (.goto 4, 3) := by decide +kernel
theorem dX5_readOfLayer_30 : decode cX5_readOfLayer 30 = .ok (.iconst 0, 1) := by decide +kernel
theorem dX5_readOfLayer_31 : decode cX5_readOfLayer 31 = .ok (.istore_n 1, 1) := by decide +kernel
theorem dX5_readOfLayer_32 : decode cX5_readOfLayer 32 = .ok (.iload_n 1, 1) := by decide +kernel
theorem dX5_readOfLayer_33 : decode cX5_readOfLayer 33 = .ok (.ifCond .ne 25, 3) := by decide +kernel
theorem dX5_readOfLayer_36 : decode cX5_readOfLayer 36 = .ok (.aload_n 0, 1) := by decide +kernel
theorem dX5_readOfLayer_37 : decode cX5_readOfLayer 37 = .ok (.getfield 18, 3) := by decide +kernel
theorem dX5_readOfLayer_40 : decode cX5_readOfLayer 40 = .ok (.iconst 0, 1) := by decide +kernel
theorem dX5_readOfLayer_41 : decode cX5_readOfLayer 41 = .ok (.bipush 12, 2) := by decide +kernel
theorem dX5_readOfLayer_43 : decode cX5_readOfLayer 43 = .ok (.invokevirtual 73, 3) := by decide +kernel
theorem dX5_readOfLayer_46 : decode cX5_readOfLayer 46 = .ok (.ifCond .ne 12, 3) := by decide +kernel
theorem dX5_readOfLayer_49 : decode cX5_readOfLayer 49 = .ok (.aload_n 0, 1) := by decide +kernel
theorem dX5_readOfLayer_50 : decode cX5_readOfLayer 50 = .ok (.getfield 18, 3) := by decide +kernel
theorem dX5_readOfLayer_53 : decode cX5_readOfLayer 53 = .ok (.iconst 1, 1) := by decide +kernel
theorem dX5_readOfLayer_54 : decode cX5_readOfLayer 54 = .ok (.invokevirtual 53, 3) := by decide +kernel
theorem dX5_readOfLayer_57 : decode cX5_readOfLayer 57 = .ok (.ireturn, 1) := by decide +kernel
theorem dX5_readOfLayer_58 : decode cX5_readOfLayer 58 = .ok (.aload_n 0, 1) := by decide +kernel
theorem dX5_readOfLayer_59 : decode cX5_readOfLayer 59 = .ok (.getfield 18, 3) := by decide +kernel
theorem dX5_readOfLayer_62 : decode cX5_readOfLayer 62 = .ok (.getfield 50, 3) := by decide +kernel
theorem dX5_readOfLayer_65 : decode cX5_readOfLayer 65 = .ok (.istore_n 2, 1) := by decide +kernel
theorem dX5_readOfLayer_66 : decode cX5_readOfLayer 66 = .ok (.aload_n 0, 1) := by decide +kernel
theorem dX5_readOfLayer_67 : decode cX5_readOfLayer 67 = .ok (.invokevirtual 77, 3) := by decide +kernel
theorem dX5_readOfLayer_70 : decode cX5_readOfLayer 70 = .ok (.ifCond .ne 5, 3) := by decide +kernel
theorem dX5_readOfLayer_73 : decode cX5_readOfLayer 73 = .ok (.iconst 0, 1) := by decide +kernel
theorem dX5_readOfLayer_74 : decode cX5_readOfLayer 74 = .ok (.ireturn, 1) := by decide +kernel
theorem dX5_readOfLayer_75 : decode cX5_readOfLayer 75 = .ok (.iload_n 1, 1) := by decide +kernel
theorem dX5_readOfLayer_76 : decode cX5_readOfLayer 76 = .ok (.ifCond .eq 9, 3) := by decide +kernel
theorem dX5_readOfLayer_79 : decode cX5_readOfLayer 79 = .ok (.aload_n 0, 1) := by decide +kernel
theorem dX5_readOfLayer_80 : decode cX5_readOfLayer 80 = .ok (.iload_n 2, 1) := by decide +kernel
theorem dX5_readOfLayer_81 : decode cX5_readOfLayer 81 = .ok (.invokevirtual 100, 3) := by decide +kernel
theorem dX5_readOfLayer_84 : decode cX5_readOfLayer 84 = .ok (.ireturn, 1) := by decide +kernel
theorem dX5_readOfLayer_85 : decode cX5_readOfLayer 85 = .ok (.aload_n 0, 1) := by decide +kernel
theorem dX5_readOfLayer_86 : decode cX5_readOfLayer 86 = .ok (.getfield 12, 3) := by decide +kernel
theorem dX5_readOfLayer_89 : decode cX5_readOfLayer 89 = .ok (.iload_n 2, 1) := by decide +kernel
theorem dX5_readOfLayer_90 : decode cX5_readOfLayer 90 = .ok (.iconst 0, 1) := by decide +kernel
theorem dX5_readOfLayer_91 : decode cX5_readOfLayer 91 = .ok (.iconst 0, 1) := by decide +kernel
theorem dX5_readOfLayer_92 : decode cX5_readOfLayer 92 = .ok (.invokevirtual 81, 3) := by decide +kernel
theorem dX5_readOfLayer_95 : decode cX5_readOfLayer 95 = .ok (.iconst 1, 1) := by decide +kernel
theorem dX5_readOfLayer_96 : decode cX5_readOfLayer 96 = .ok (.ireturn, 1) := by decide +kernel
theorem dX5_readOfBore_0 : decode cX5_readOfBore 0 = .ok (.aload_n 0, 1) := by decide +kernel
theorem dX5_readOfBore_1 : decode cX5_readOfBore 1 = .ok (.getfield 18, 3) := by decide +kernel
theorem dX5_readOfBore_4 : decode cX5_readOfBore 4 = .ok (.bipush 17, 2) := by decide +kernel
theorem dX5_readOfBore_6 : decode cX5_readOfBore 6 = .ok (.bipush 7, 2) := by decide +kernel
theorem dX5_readOfBore_8 : decode cX5_readOfBore 8 = .ok (.invokevirtual 73, 3) := by decide +kernel
theorem dX5_readOfBore_11 : decode cX5_readOfBore 11 = .ok (.ifCond .ne 12, 3) := by decide +kernel
theorem dX5_readOfBore_14 : decode cX5_readOfBore 14 = .ok (.aload_n 0, 1) := by decide +kernel
theorem dX5_readOfBore_15 : decode cX5_readOfBore 15 = .ok (.getfield 18, 3) := by decide +kernel
theorem dX5_readOfBore_18 : decode cX5_readOfBore 18 = .ok (.iconst 1, 1) := by decide +kernel
theorem dX5_readOfBore_19 : decode cX5_readOfBore 19 = .ok (.invokevirtual 53, 3) := by decide +kernel
theorem dX5_readOfBore_22 : decode cX5_readOfBore 22 = .ok (.ireturn, 1) := by decide +kernel
theorem dX5_readOfBore_23 : decode cX5_readOfBore 23 = .ok (.aload_n 0, 1) := by decide +kernel
theorem dX5_readOfBore_24 : decode cX5_readOfBore 24 = .ok (.getfield 18, 3) := by decide +kernel
theorem dX5_readOfBore_27 : decode cX5_readOfBore 27 = .ok (.getfield 50, 3) := by decide +kernel
theorem dX5_readOfBore_30 : decode cX5_readOfBore 30 = .ok (.istore_n 1, 1) := by decide +kernel
theorem dX5_readOfBore_31 : decode cX5_readOfBore 31 = .ok (.iconst 0, 1) := by decide +kernel
theorem dX5_readOfBore_32 : decode cX5_readOfBore 32 = .ok (.istore_n 2, 1) := by decide +kernel
theorem dX5_readOfBore_33 : decode cX5_readOfBore 33 = .ok (.aload_n 0, 1) := by decide +kernel
theorem dX5_readOfBore_34 : decode cX5_readOfBore 34 = .ok (.invokevirtual 77, 3) := by decide +kernel
theorem dX5_readOfBore_37 : decode cX5_readOfBore 37 = .ok (.ifCond .ne 5, 3) := by decide +kernel
theorem dX5_readOfBore_40 : decode cX5_readOfBore 40 = .ok (.iconst 0, 1) := by decide +kernel
theorem dX5_readOfBore_41 : decode cX5_readOfBore 41 = .ok (.ireturn, 1) := by decide +kernel
theorem dX5_readOfBore_42 : decode cX5_readOfBore 42 = .ok (.iload_n 1, 1) := by decide +kernel
theorem dX5_readOfBore_43 : decode cX5_readOfBore 43 = .ok (.bipush 20, 2) := by decide +kernel
theorem dX5_readOfBore_45 : decode cX5_readOfBore 45 = .ok (.if_icmp .ne 33, 3) := by decide +kernel
theorem dX5_readOfBore_48 : decode cX5_readOfBore 48 = .ok (.aload_n 0, 1) := by decide +kernel
theorem dX5_readOfBore_49 : decode cX5_readOfBore 49 = .ok (.getfield 18, 3) := by decide +kernel
theorem dX5_readOfBore_52 : decode cX5_readOfBore 52 = .ok (.sipush 999, 3) := by decide +kernel
theorem dX5_readOfBore_55 : decode cX5_readOfBore 55 = .ok (.invokevirtual 103, 3) := by decide +kernel
theorem dX5_readOfBore_58 : decode cX5_readOfBore 58 = .ok (.ifCond .ne 5, 3) := by decide +kernel
theorem dX5_readOfBore_61 : decode cX5_readOfBore 61 = .ok (.iconst 0, 1) := by decide +kernel
theorem dX5_readOfBore_62 : decode cX5_readOfBore 62 = .ok (.ireturn, 1) := by decide +kernel
theorem dX5_readOfBore_63 : decode cX5_readOfBore 63 = .ok (.aload_n 0, 1) := by decide +kernel
theorem dX5_readOfBore_64 : decode cX5_readOfBore 64 = .ok (.getfield 18, 3) := by decide +kernel
theorem dX5_readOfBore_67 : decode cX5_readOfBore 67 = .ok (.getfield 50, 3) := by decide +kernel
theorem dX5_readOfBore_70 : decode cX5_readOfBore 70 = .ok (.istore_n 2, 1) := by decide +kernel
theorem dX5_readOfBore_71 : decode cX5_readOfBore 71 = .ok (.aload_n 0, 1) := by decide +kernel
theorem dX5_readOfBore_72 : decode cX5_readOfBore 72 = .ok (.getfield 18, 3) := by decide +kernel
theorem dX5_readOfBore_75 : decode cX5_readOfBore 75 = .ok (.invokevirtual 67, 3) := by decide +kernel
theorem dX5_readOfBore_78 : decode cX5_readOfBore 78 = .ok (.iload_n 1, 1) := by decide +kernel
theorem dX5_readOfBore_79 : decode cX5_readOfBore 79 = .ok (.bipush 17, 2) := by decide +kernel
theorem dX5_readOfBore_81 : decode cX5_readOfBore 81 = .ok (.if_icmp .eq 19, 3) := by decide +kernel
theorem dX5_readOfBore_84 : decode cX5_readOfBore 84 = .ok (.iload_n 1, 1) := by decide +kernel
theorem dX5_readOfBore_85 : decode cX5_readOfBore 85 = .ok (.bipush 23, 2) := by decide +kernel
theorem dX5_readOfBore_87 : decode cX5_readOfBore 87 = .ok (.if_icmp .eq 13, 3) := by decide +kernel
theorem dX5_readOfBore_90 : decode cX5_readOfBore 90 = .ok (.aload_n 0, 1) := by decide +kernel
theorem dX5_readOfBore_91 : decode cX5_readOfBore 91 = .ok (.iconst 1, 1) := by decide +kernel
theorem dX5_readOfBore_92 : decode cX5_readOfBore 92 = .ok (.invokevirtual 91, 3) := by decide +kernel
theorem dX5_readOfBore_95 : decode cX5_readOfBore 95 = .ok (.ifCond .ne 5, 3) := by decide +kernel
theorem dX5_readOfBore_98 : decode cX5_readOfBore 98 = .ok (.iconst 0, 1) := by decide +kernel
theorem dX5_readOfBore_99 : decode cX5_readOfBore 99 = .ok (.ireturn, 1) := by decide +kernel
theorem dX5_readOfBore_100 : decode cX5_readOfBore 100 = .ok (.iload_n 1, 1) := by decide +kernel
theorem dX5_readOfBore_101 : decode cX5_readOfBore 101 = .ok (.bipush 21, 2) := by decide +kernel
theorem dX5_readOfBore_103 : decode cX5_readOfBore 103 = .ok (.if_icmp .eq 15, 3) := by decide +kernel
theorem dX5_readOfBore_106 : decode cX5_readOfBore 106 = .ok (.iload_n 1, 1) := by decide +kernel
theorem dX5_readOfBore_107 : decode cX5_readOfBore 107 = .ok (.bipush 22, 2) := by decide +kernel
theorem dX5_readOfBore_109 : decode cX5_readOfBore 109 = .ok (.if_icmp .eq 9, 3) := by decide +kernel
theorem dX5_readOfBore_112 : decode cX5_readOfBore 112 = .ok (.iload_n 1, 1) := by decide +kernel
theorem dX5_readOfBore_113 : decode cX5_readOfBore 113 = .ok (.bipush 23, 2) := by decide +kernel
theorem dX5_readOfBore_115 : decode cX5_readOfBore 115 = .ok (.if_icmp .ne 9, 3) := by decide +kernel
theorem dX5_readOfBore_118 : decode cX5_readOfBore 118 = .ok (.aload_n 0, 1) := by decide +kernel
theorem dX5_readOfBore_119 : decode cX5_readOfBore 119 = .ok (.iload_n 1, 1) := by decide +kernel
theorem dX5_readOfBore_120 : decode cX5_readOfBore 120 = .ok (.invokevirtual 100, 3) := by decide +kernel
theorem dX5_readOfBore_123 : decode cX5_readOfBore 123 = .ok (.ireturn, 1) := by decide +kernel
theorem dX5_readOfBore_124 : decode cX5_readOfBore 124 = .ok (.aload_n 0, 1) := by decide +kernel
theorem dX5_readOfBore_125 : decode cX5_readOfBore 125 = .ok (.getfield 12, 3) := by decide +kernel
theorem dX5_readOfBore_128 : decode cX5_readOfBore 128 = .ok (.iload_n 1, 1) := by decide +kernel
theorem dX5_readOfBore_129 : decode cX5_readOfBore 129 = .ok (.iconst 0, 1) := by decide +kernel
theorem dX5_readOfBore_130 : decode cX5_readOfBore 130 = .ok (.iload_n 2, 1) := by decide +kernel
theorem dX5_readOfBore_131 : decode cX5_readOfBore 131 = .ok (.invokevirtual 81, 3) := by decide +kernel
