theorem dX5_readOfBore_134 : decode cX5_readOfBore 134 = .ok (.iconst 1, 1) := by decide +kernel
theorem dX5_readOfBore_135 : decode cX5_readOfBore 135 = .ok (.ireturn, 1) := by decide +kernel
theorem dX5_readCompare_0 : decode cX5_readCompare 0 = .ok (.aload_n 0, 1) := by decide +kernel
theorem dX5_readCompare_1 : decode cX5_readCompare 1 = .ok (.getfield 18, 3) := by decide +kernel
theorem dX5_readCompare_4 : decode cX5_readCompare 4 = .ok (.getfield 50, 3) := by decide +kernel
theorem dX5_readCompare_7 : decode cX5_readCompare 7 = .ok (.istore_n 2, 1) := by decide +kernel
theorem dX5_readCompare_8 : decode cX5_readCompare 8 = .ok (.aload_n 0, 1) := by decide +kernel
theorem dX5_readCompare_9 : decode cX5_readCompare 9 = .ok (.getfield 18, 3) := by decide +kernel
theorem dX5_readCompare_12 : decode cX5_readCompare 12 = .ok (.bipush 60, 2) := by decide +kernel
theorem dX5_readCompare_14 : decode cX5_readCompare 14 = .ok (.invokevirtual 88, 3) := by decide +kernel
theorem dX5_readCompare_17 : decode cX5_readCompare 17 = .ok (.ifCond .ne 27, 3) := by decide +kernel
theorem dX5_readCompare_20 : decode cX5_readCompare 20 = .ok (.aload_n 0, 1) := by decide +kernel
theorem dX5_readCompare_21 : decode cX5_readCompare 21 = .ok (.getfield 18, 3) := by decide +kernel
theorem dX5_readCompare_24 : decode cX5_readCompare 24 = .ok (.bipush 61, 2) := by decide +kernel
theorem dX5_readCompare_26 : decode cX5_readCompare 26 = .ok (.invokevirtual 88, 3) := by decide +kernel
theorem dX5_readCompare_29 : decode cX5_readCompare 29 = .ok (.ifCond .ne 15, 3) := by decide +kernel
theorem dX5_readCompare_32 : decode cX5_readCompare 32 = .ok (.aload_n 0, 1) := by decide +kernel
theorem dX5_readCompare_33 : decode cX5_readCompare 33 = .ok (.getfield 18, 3) := by decide +kernel
theorem dX5_readCompare_36 : decode cX5_readCompare 36 = .ok (.bipush 62, 2) := by decide +kernel
theorem dX5_readCompare_38 : decode cX5_readCompare 38 = .ok (.invokevirtual 88, 3) := by decide +kernel
theorem dX5_readCompare_41 : decode cX5_readCompare 41 = .ok (.ifCond .eq 7, 3) := by decide +kernel
theorem dX5_readCompare_44 : decode cX5_readCompare 44 = .ok (.iconst 1, 1) := by decide +kernel
theorem dX5_readCompare_45 : decode cX5_readCompare 45 = .ok (.goto 4, 3) := by decide +kernel
theorem dX5_readCompare_48 : decode cX5_readCompare 48 = .ok (.iconst 0, 1) := by decide +kernel
theorem dX5_readCompare_49 : decode cX5_readCompare 49 = .ok (.istore_n 3, 1) := by decide +kernel
theorem dX5_readCompare_50 : decode cX5_readCompare 50 = .ok (.iload_n 3, 1) := by decide +kernel
theorem dX5_readCompare_51 : decode cX5_readCompare 51 = .ok (.ifCond .ne 38, 3) := by decide +kernel
theorem dX5_readCompare_54 : decode cX5_readCompare 54 = .ok (.aload_n 0, 1) := by decide +kernel
theorem dX5_readCompare_55 : decode cX5_readCompare 55 = .ok (.getfield 18, 3) := by decide +kernel
theorem dX5_readCompare_58 : decode cX5_readCompare 58 = .ok (.sipush 316, 3) := by decide +kernel
theorem dX5_readCompare_61 : decode cX5_readCompare 61 = .ok (.invokevirtual 88, 3) := by decide +kernel
theorem dX5_readCompare_64 : decode cX5_readCompare 64 = .ok (.ifCond .ne 25, 3) := by decide +kernel
theorem dX5_readCompare_67 : decode cX5_readCompare 67 = .ok (.aload_n 0, 1) := by decide +kernel
theorem dX5_readCompare_68 : decode cX5_readCompare 68 = .ok (.getfield 18, 3) := by decide +kernel
theorem dX5_readCompare_71 : decode cX5_readCompare 71 = .ok (.sipush 318, 3) := by decide +kernel
theorem dX5_readCompare_74 : decode cX5_readCompare 74 = .ok (.invokevirtual 88, 3) := by decide +kernel
theorem dX5_readCompare_77 : decode cX5_readCompare 77 = .ok (.ifCond .ne 12, 3) := by decide +kernel
theorem dX5_readCompare_80 : decode cX5_readCompare 80 = .ok (.aload_n 0, 1) := by decide +kernel
theorem dX5_readCompare_81 : decode cX5_readCompare 81 = .ok (.getfield 18, 3) := by decide +kernel
theorem dX5_readCompare_84 : decode cX5_readCompare 84 = .ok (.iconst 1, 1) := by decide +kernel
theorem dX5_readCompare_85 : decode cX5_readCompare 85 = .ok (.invokevirtual 53, 3) := by decide +kernel
theorem dX5_readCompare_88 : decode cX5_readCompare 88 = .ok (.ireturn, 1) := by decide +kernel
theorem dX5_readCompare_89 : decode cX5_readCompare 89 = .ok (.aload_n 0, 1) := by decide +kernel
theorem dX5_readCompare_90 : decode cX5_readCompare 90 = .ok (.getfield 18, 3) := by decide +kernel
theorem dX5_readCompare_93 : decode cX5_readCompare 93 = .ok (.invokevirtual 67, 3) := by decide +kernel
theorem dX5_readCompare_96 : decode cX5_readCompare 96 = .ok (.aload_n 0, 1) := by decide +kernel
theorem dX5_readCompare_97 : decode cX5_readCompare 97 = .ok (.getfield 18, 3) := by decide +kernel
theorem dX5_readCompare_100 : decode cX5_readCompare 100 = .ok (.sipush 999, 3) := by decide +kernel
theorem dX5_readCompare_103 : decode cX5_readCompare 103 = .ok (.invokevirtual 103, 3) := by decide +kernel
theorem dX5_readCompare_106 : decode cX5_readCompare 106 = .ok (.ifCond .ne 5, 3) := by decide +kernel
theorem dX5_readCompare_109 : decode cX5_readCompare 109 = .ok (.iconst 0, 1) := by decide +kernel
theorem dX5_readCompare_110 : decode cX5_readCompare 110 = .ok (.ireturn, 1) := by decide +kernel
theorem dX5_readCompare_111 : decode cX5_readCompare 111 = .ok (.aload_n 0, 1) := by decide +kernel
theorem dX5_readCompare_112 : decode cX5_readCompare 112 = .ok (.getfield 12, 3) := by decide +kernel
theorem dX5_readCompare_115 : decode cX5_readCompare 115 = .ok (.iload_n 1, 1) := by decide +kernel
theorem dX5_readCompare_116 : decode cX5_readCompare 116 = .ok (.iload_n 2, 1) := by decide +kernel
theorem dX5_readCompare_117 : decode cX5_readCompare 117 = .ok (.aload_n 0, 1) := by decide +kernel
theorem dX5_readCompare_118 : decode cX5_readCompare 118 = .ok (.getfield 18, 3) := by decide +kernel
theorem dX5_readCompare_121 : decode cX5_readCompare 121 = .ok (.getfield 50, 3) := by decide +kernel
theorem dX5_readCompare_124 : decode cX5_readCompare 124 = .ok (.invokevirtual 81, 3) := by decide +kernel
theorem dX5_readCompare_127 : decode cX5_readCompare 127 = .ok (.aload_n 0, 1) := by decide +kernel
theorem dX5_readCompare_128 : decode cX5_readCompare 128 = .ok (.getfield 18, 3) := by decide +kernel
theorem dX5_readCompare_131 : decode cX5_readCompare 131 = .ok (.invokevirtual 67, 3) := by decide +kernel
theorem dX5_readCompare_134 : decode cX5_readCompare 134 = .ok (.iconst 1, 1) := by decide +kernel
theorem dX5_readCompare_135 : decode cX5_readCompare 135 = .ok (.ireturn, 1) := by decide +kernel
theorem dX5_takeKnot_0 : decode cX5_takeKnot 0 = .ok (.aload_n 0, 1) := by decide +kernel
theorem dX5_takeKnot_1 : decode cX5_takeKnot 1 = .ok (.getfield 12, 3) := by decide +kernel
theorem dX5_takeKnot_4 : decode cX5_takeKnot 4 = .ok (.getfield 106, 3) := by decide +kernel
theorem dX5_takeKnot_7 : decode cX5_takeKnot 7 = .ok (.bipush 96, 2) := by decide +kernel
theorem dX5_takeKnot_9 : decode cX5_takeKnot 9 = .ok (.if_icmp .lt 12, 3) := by decide +kernel
theorem dX5_takeKnot_12 : decode cX5_takeKnot 12 = .ok (.aload_n 0, 1) := by decide +kernel
theorem dX5_takeKnot_13 : decode cX5_takeKnot 13 = .ok (.getfield 18, 3) := by decide +kernel
theorem dX5_takeKnot_16 : decode cX5_takeKnot 16 = .ok (.iconst 2, 1) := by decide +kernel
theorem dX5_takeKnot_17 : decode cX5_takeKnot 17 = .ok (.invokevirtual 53, 3) := by decide +kernel
theorem dX5_takeKnot_20 : decode cX5_takeKnot 20 = .ok (.ireturn, 1) := by decide +kernel
theorem dX5_takeKnot_21 : decode cX5_takeKnot 21 = .ok (.aload_n 0, 1) := by decide +kernel
theorem dX5_takeKnot_22 : decode cX5_takeKnot 22 = .ok (.getfield 12, 3) := by decide +kernel
theorem dX5_takeKnot_25 : decode cX5_takeKnot 25 = .ok (.dup, 1) := by decide +kernel
theorem dX5_takeKnot_26 : decode cX5_takeKnot 26 = .ok (.getfield 106, 3) := by decide +kernel
theorem dX5_takeKnot_29 : decode cX5_takeKnot 29 = .ok (.iconst 1, 1) := by decide +kernel
theorem dX5_takeKnot_30 : decode cX5_takeKnot 30 = .ok (.iadd, 1) := by decide +kernel
theorem dX5_takeKnot_31 : decode cX5_takeKnot 31 = .ok (.putfield 106, 3) := by decide +kernel
theorem dX5_takeKnot_34 : decode cX5_takeKnot 34 = .ok (.aload_n 0, 1) := by decide +kernel
theorem dX5_takeKnot_35 : decode cX5_takeKnot 35 = .ok (.getfield 18, 3) := by decide +kernel
theorem dX5_takeKnot_38 : decode cX5_takeKnot 38 = .ok (.invokevirtual 67, 3) := by decide +kernel
theorem dX5_takeKnot_41 : decode cX5_takeKnot 41 = .ok (.iconst 1, 1) := by decide +kernel
theorem dX5_takeKnot_42 : decode cX5_takeKnot 42 = .ok (.ireturn, 1) := by decide +kernel
theorem dX6_init_0 : decode cX6_init 0 = .ok (.aload_n 0, 1) := by decide +kernel
theorem dX6_init_1 : decode cX6_init 1 = .ok (.invokespecial 3, 3) := by decide +kernel
theorem dX6_init_4 : decode cX6_init 4 = .ok (.aload_n 0, 1) := by decide +kernel
theorem dX6_init_5 : decode cX6_init 5 = .ok (.iconst 5, 1) := by decide +kernel
theorem dX6_init_6 : decode cX6_init 6 = .ok (.bipush 64, 2) := by decide +kernel
theorem dX6_init_8 : decode cX6_init 8 = .ok (.multianewarray 11 2, 4) := by decide +kernel
theorem dX6_init_12 : decode cX6_init 12 = .ok (.putfield 13, 3) := by decide +kernel
theorem dX6_init_15 : decode cX6_init 15 = .ok (.aload_n 0, 1) := by decide +kernel
theorem dX6_init_16 : decode cX6_init 16 = .ok (.bipush 64, 2) := by decide +kernel
theorem dX6_init_18 : decode cX6_init 18 = .ok (.newarray .int, 2) := by decide +kernel
theorem dX6_init_20 : decode cX6_init 20 = .ok (.putfield 16, 3) := by decide +kernel
theorem dX6_init_23 : decode cX6_init 23 = .ok (.aload_n 0, 1) := by decide +kernel
theorem dX6_init_24 : decode cX6_init 24 = .ok (.bipush 64, 2) := by decide +kernel
theorem dX6_init_26 : decode cX6_init 26 = .ok (.newarray .int, 2) := by decide +kernel
theorem dX6_init_28 : decode cX6_init 28 = .ok (.putfield 20, 3) := by decide +kernel
theorem dX6_init_31 : decode cX6_init 31 = .ok (.aload_n 0, 1) := by decide +kernel
theorem dX6_init_32 : decode cX6_init 32 = .ok (.bipush 64, 2) := by decide +kernel
theorem dX6_init_34 : decode cX6_init 34 = .ok (.newarray .int, 2) := by decide +kernel
theorem dX6_init_36 : decode cX6_init 36 = .ok (.putfield 23, 3) := by decide +kernel
theorem dX6_init_39 : decode cX6_init 39 = .ok (.aload_n 0, 1) := by decide +kernel
theorem dX6_init_40 : decode cX6_init 40 = .ok (.bipush 64, 2) := by decide +kernel
theorem dX6_init_42 : decode cX6_init 42 = .ok (.newarray .int, 2) := by decide +kernel
theorem dX6_init_44 : decode cX6_init 44 = .ok (.putfield 26, 3) := by decide +kernel
theorem dX6_init_47 : decode cX6_init 47 = .ok (.aload_n 0, 1) := by decide +kernel
theorem dX6_init_48 : decode cX6_init 48 = .ok (.bipush 64, 2) := by decide +kernel
theorem dX6_init_50 : decode cX6_init 50 = .ok (.newarray .int, 2) := by decide +kernel
theorem dX6_init_52 : decode cX6_init 52 = .ok (.putfield 29, 3) := by decide +kernel
theorem dX6_init_55 : decode cX6_init 55 = .ok (.aload_n 0, 1) := by decide +kernel
theorem dX6_init_56 : decode cX6_init 56 = .ok (.iconst 5, 1) := by decide +kernel
theorem dX6_init_57 : decode cX6_init 57 = .ok (.putfield 32, 3) := by decide +kernel
theorem dX6_init_60 : decode cX6_init 60 = .ok (.aload_n 0, 1) := by decide +kernel
theorem dX6_init_61 : decode cX6_init 61 = .ok (.bipush 20, 2) := by decide +kernel
theorem dX6_init_63 : decode cX6_init 63 = .ok (.putfield 36, 3) := by decide +kernel
theorem dX6_init_66 : decode cX6_init 66 = .ok (.aload_n 0, 1) := by decide +kernel
theorem dX6_init_67 : decode cX6_init 67 = .ok (.bipush 30, 2) := by decide +kernel
theorem dX6_init_69 : decode cX6_init 69 = .ok (.putfield 39, 3) := by decide +kernel
theorem dX6_init_72 : decode cX6_init 72 = .ok (.aload_n 0, 1) := by decide +kernel
theorem dX6_init_73 : decode cX6_init 73 = .ok (.bipush 60, 2) := by decide +kernel
theorem dX6_init_75 : decode cX6_init 75 = .ok (.putfield 42, 3) := by decide +kernel
theorem dX6_init_78 : decode cX6_init 78 = .ok (.aload_n 0, 1) := by decide +kernel
theorem dX6_init_79 : decode cX6_init 79 = .ok (.iconst 4, 1) := by decide +kernel
theorem dX6_init_80 : decode cX6_init 80 = .ok (.iconst 4, 1) := by decide +kernel
theorem dX6_init_81 : decode cX6_init 81 = .ok (.invokevirtual 45, 3) := by decide +kernel
theorem dX6_init_84 : decode cX6_init 84 = .ok (.return_, 1) := by decide +kernel
theorem dX6_renew_0 : decode cX6_renew 0 = .ok (.aload_n 0, 1) := by decide +kernel
theorem dX6_renew_1 : decode cX6_renew 1 = .ok (.iload_n 1, 1) := by decide +kernel
theorem dX6_renew_2 : decode cX6_renew 2 = .ok (.putfield 49, 3) := by decide +kernel
theorem dX6_renew_5 : decode cX6_renew 5 = .ok (.aload_n 0, 1) := by decide +kernel
theorem dX6_renew_6 : decode cX6_renew 6 = .ok (.iload_n 2, 1) := by decide +kernel
theorem dX6_renew_7 : decode cX6_renew 7 = .ok (.putfield 52, 3) := by decide +kernel
theorem dX6_renew_10 : decode cX6_renew 10 = .ok (.aload_n 0, 1) := by decide +kernel
theorem dX6_renew_11 : decode cX6_renew 11 = .ok (.aload_n 0, 1) := by decide +kernel
theorem dX6_renew_12 : decode cX6_renew 12 = .ok (.getfield 49, 3) := by decide +kernel
theorem dX6_renew_15 : decode cX6_renew 15 = .ok (.aload_n 0, 1) := by decide +kernel
theorem dX6_renew_16 : decode cX6_renew 16 = .ok (.getfield 52, 3) := by decide +kernel
theorem dX6_renew_19 : decode cX6_renew 19 = .ok (.imul, 1) := by decide +kernel
theorem dX6_renew_20 : decode cX6_renew 20 = .ok (.putfield 55, 3) := by decide +kernel
theorem dX6_renew_23 : decode cX6_renew 23 = .ok (.iconst 0, 1) := by decide +kernel
theorem dX6_renew_24 : decode cX6_renew 24 = .ok (.istore_n 3, 1) := by decide +kernel
theorem dX6_renew_25 : decode cX6_renew 25 = .ok (.iload_n 3, 1) := by decide +kernel
theorem dX6_renew_26 : decode cX6_renew 26 = .ok (.aload_n 0, 1) := by decide +kernel
theorem dX6_renew_27 : decode cX6_renew 27 = .ok (.getfield 52, 3) := by decide +kernel
theorem dX6_renew_30 : decode cX6_renew 30 = .ok (.if_icmp .ge 58, 3) := by decide +kernel
theorem dX6_renew_33 : decode cX6_renew 33 = .ok (.iconst 0, 1) := by decide +kernel
theorem dX6_renew_34 : decode cX6_renew 34 = .ok (.istore 4, 2) := by decide +kernel
theorem dX6_renew_36 : decode cX6_renew 36 = .ok (.iload 4, 2) := by decide +kernel
theorem dX6_renew_38 : decode cX6_renew 38 = .ok (.aload_n 0, 1) := by decide +kernel
theorem dX6_renew_39 : decode cX6_renew 39 = .ok (.getfield 49, 3) := by decide +kernel
theorem dX6_renew_42 : decode cX6_renew 42 = .ok (.if_icmp .ge 40, 3) := by decide +kernel
theorem dX6_renew_45 : decode cX6_renew 45 = .ok (.aload_n 0, 1) := by decide +kernel
theorem dX6_renew_46 : decode cX6_renew 46 = .ok (.getfield 16, 3) := by decide +kernel
theorem dX6_renew_49 : decode cX6_renew 49 = .ok (.iload_n 3, 1) := by decide +kernel
theorem dX6_renew_50 : decode cX6_renew 50 = .ok (.aload_n 0, 1) := by decide +kernel
theorem dX6_renew_51 : decode cX6_renew 51 = .ok (.getfield 49, 3) := by decide +kernel
theorem dX6_renew_54 : decode cX6_renew 54 = .ok (.imul, 1) := by decide +kernel
theorem dX6_renew_55 : decode cX6_renew 55 = .ok (.iload 4, 2) := by decide +kernel
theorem dX6_renew_57 : decode cX6_renew 57 = .ok (.iadd, 1) := by decide +kernel
theorem dX6_renew_58 : decode cX6_renew 58 = .ok (.iload 4, 2) := by decide +kernel
theorem dX6_renew_60 : decode cX6_renew 60 = .ok (.iastore, 1) := by decide +kernel
theorem dX6_renew_61 : decode cX6_renew 61 = .ok (.aload_n 0, 1) := by decide +kernel
theorem dX6_renew_62 : decode cX6_renew 62 = .ok (.getfield 20, 3) := by decide +kernel
theorem dX6_renew_65 : decode cX6_renew 65 = .ok (.iload_n 3, 1) := by decide +kernel
theorem dX6_renew_66 : decode cX6_renew 66 = .ok (.aload_n 0, 1) := by decide +kernel
theorem dX6_renew_67 : decode cX6_renew 67 = .ok (.getfield 49, 3) := by decide +kernel
theorem dX6_renew_70 : decode cX6_renew 70 = .ok (.imul, 1) := by decide +kernel
theorem dX6_renew_71 : decode cX6_renew 71 = .ok (.iload 4, 2) := by decide +kernel
theorem dX6_renew_73 : decode cX6_renew 73 = .ok (.iadd, 1) := by decide +kernel
theorem dX6_renew_74 : decode cX6_renew 74 = .ok (.iload_n 3, 1) := by decide +kernel
theorem dX6_renew_75 : decode cX6_renew 75 = .ok (.iastore, 1) := by decide +kernel
theorem dX6_renew_76 : decode cX6_renew 76 = .ok (.iinc 4 1, 3) := by decide +kernel
theorem dX6_renew_79 : decode cX6_renew 79 = .ok (.goto (-43), 3) := by decide +kernel
theorem dX6_renew_82 : decode cX6_renew 82 = .ok (.iinc 3 1, 3) := by decide +kernel
theorem dX6_renew_85 : decode cX6_renew 85 = .ok (.goto (-60), 3) := by decide +kernel
theorem dX6_renew_88 : decode cX6_renew 88 = .ok (.iconst 0, 1) := by decide +kernel
theorem dX6_renew_89 : decode cX6_renew 89 = .ok (.istore_n 3, 1) := by decide +kernel
theorem dX6_renew_90 : decode cX6_renew 90 = .ok (.iload_n 3, 1) := by decide +kernel
theorem dX6_renew_91 : decode cX6_renew 91 = .ok (.iconst 5, 1) := by decide +kernel
theorem dX6_renew_92 : decode cX6_renew 92 = .ok (.if_icmp .ge 41, 3) := by decide +kernel
theorem dX6_renew_95 : decode cX6_renew 95 = .ok (.iconst 0, 1) := by decide +kernel
theorem dX6_renew_96 : decode cX6_renew 96 = .ok (.istore 4, 2) := by decide +kernel
theorem dX6_renew_98 : decode cX6_renew 98 = .ok (.iload 4, 2) := by decide +kernel
theorem dX6_renew_100 : decode cX6_renew 100 = .ok (.aload_n 0, 1) := by decide +kernel
theorem dX6_renew_101 : decode cX6_renew 101 = .ok (.getfield 55, 3) := by decide +kernel
theorem dX6_renew_104 : decode cX6_renew 104 = .ok (.if_icmp .ge 23, 3) := by decide +kernel
theorem dX6_renew_107 : decode cX6_renew 107 = .ok (.aload_n 0, 1) := by decide +kernel
theorem dX6_renew_108 : decode cX6_renew 108 = .ok (.getfield 13, 3) := by decide +kernel
theorem dX6_renew_111 : decode cX6_renew 111 = .ok (.iload_n 3, 1) := by decide +kernel
theorem dX6_renew_112 : decode cX6_renew 112 = .ok (.aaload, 1) := by decide +kernel
theorem dX6_renew_113 : decode cX6_renew 113 = .ok (.iload 4, 2) := by decide +kernel
theorem dX6_renew_115 : decode cX6_renew 115 = .ok (.getstatic 58, 3) := by decide +kernel
theorem dX6_renew_118 : decode cX6_renew 118 = .ok (.iload_n 3, 1) := by decide +kernel
theorem dX6_renew_119 : decode cX6_renew 119 = .ok (.iaload, 1) := by decide +kernel
theorem dX6_renew_120 : decode cX6_renew 120 = .ok (.iastore, 1) := by decide +kernel
theorem dX6_renew_121 : decode cX6_renew 121 = .ok (.iinc 4 1, 3) := by decide +kernel
theorem dX6_renew_124 : decode cX6_renew 124 = .ok (.goto (-26), 3) := by decide +kernel
theorem dX6_renew_127 : decode cX6_renew 127 = .ok (.iinc 3 1, 3) := by decide +kernel
theorem dX6_renew_130 : decode cX6_renew 130 = .ok (.goto (-40), 3) := by decide +kernel
theorem dX6_renew_133 : decode cX6_renew 133 = .ok (.aload_n 0, 1) := by decide +kernel
theorem dX6_renew_134 : decode cX6_renew 134 = .ok (.invokevirtual 61, 3) := by decide +kernel
theorem dX6_renew_137 : decode cX6_renew 137 = .ok (.return_, 1) := by decide +kernel
theorem dX6_hasCell_0 : decode cX6_hasCell 0 = .ok (.iload_n 1, 1) := by decide +kernel
theorem dX6_hasCell_1 : decode cX6_hasCell 1 = .ok (.ifCond .lt 15, 3) := by decide +kernel
theorem dX6_hasCell_4 : decode cX6_hasCell 4 = .ok (.iload_n 1, 1) := by decide +kernel
theorem dX6_hasCell_5 : decode cX6_hasCell 5 = .ok (.aload_n 0, 1) := by decide +kernel
theorem dX6_hasCell_6 : decode cX6_hasCell 6 = .ok (.getfield 55, 3) := by decide +kernel
theorem dX6_hasCell_9 : decode cX6_hasCell 9 = .ok (.if_icmp .ge 7, 3) := by decide +kernel
theorem dX6_hasCell_12 : decode cX6_hasCell 12 = .ok (.iconst 1, 1) := by decide +kernel
theorem dX6_hasCell_13 : decode cX6_hasCell 13 = .ok (.goto 4, 3) := by decide +kernel
theorem dX6_hasCell_16 : decode cX6_hasCell 16 = .ok (.iconst 0, 1) := by decide +kernel
theorem dX6_hasCell_17 : decode cX6_hasCell 17 = .ok (.ireturn, 1) := by decide +kernel
theorem dX6_put_0 : decode cX6_put 0 = .ok (.iload_n 2, 1) := by decide +kernel
theorem dX6_put_1 : decode cX6_put 1 = .ok (.ifCond .lt 26, 3) := by decide +kernel
theorem dX6_put_4 : decode cX6_put 4 = .ok (.iload_n 2, 1) := by decide +kernel
theorem dX6_put_5 : decode cX6_put 5 = .ok (.iconst 5, 1) := by decide +kernel
theorem dX6_put_6 : decode cX6_put 6 = .ok (.if_icmp .ge 21, 3) := by decide +kernel
theorem dX6_put_9 : decode cX6_put 9 = .ok (.iload_n 3, 1) := by decide +kernel
theorem dX6_put_10 : decode cX6_put 10 = .ok (.getstatic 64, 3) := by decide +kernel
theorem dX6_put_13 : decode cX6_put 13 = .ok (.iload_n 2, 1) := by decide +kernel
theorem dX6_put_14 : decode cX6_put 14 = .ok (.iaload, 1) := by decide +kernel
theorem dX6_put_15 : decode cX6_put 15 = .ok (.if_icmp .lt 12, 3) := by decide +kernel
theorem dX6_put_18 : decode cX6_put 18 = .ok (.iload_n 3, 1) := by decide +kernel
theorem dX6_put_19 : decode cX6_put 19 = .ok (.getstatic 67, 3) := by decide +kernel
theorem dX6_put_22 : decode cX6_put 22 = .ok (.iload_n 2, 1) := by decide +kernel
theorem dX6_put_23 : decode cX6_put 23 = .ok (.iaload, 1) := by decide +kernel
theorem dX6_put_24 : decode cX6_put 24 = .ok (.if_icmp .le 5, 3) := by decide +kernel
theorem dX6_put_27 : decode cX6_put 27 = .ok (.iconst 0, 1) := by decide +kernel
theorem dX6_put_28 : decode cX6_put 28 = .ok (.ireturn, 1) := by decide +kernel
theorem dX6_put_29 : decode cX6_put 29 = .ok (.aload_n 0, 1) := by decide +kernel
theorem dX6_put_30 : decode cX6_put 30 = .ok (.getfield 13, 3) := by decide +kernel
theorem dX6_put_33 : decode cX6_put 33 = .ok (.iload_n 2, 1) := by decide +kernel
theorem dX6_put_34 : decode cX6_put 34 = .ok (.aaload, 1) := by decide +kernel
theorem dX6_put_35 : decode cX6_put 35 = .ok (.iload_n 1, 1) := by decide +kernel
theorem dX6_put_36 : decode cX6_put 36 = .ok (.iload_n 3, 1) := by decide +kernel
theorem dX6_put_37 : decode cX6_put 37 = .ok (.iastore, 1) := by decide +kernel
theorem dX6_put_38 : decode cX6_put 38 = .ok (.aload_n 0, 1) := by decide +kernel
theorem dX6_put_39 : decode cX6_put 39 = .ok (.invokevirtual 61, 3) := by decide +kernel
theorem dX6_put_42 : decode cX6_put 42 = .ok (.iconst 1, 1) := by decide +kernel
theorem dX6_put_43 : decode cX6_put 43 = .ok (.ireturn, 1) := by decide +kernel
theorem dX6_putBounds_0 : decode cX6_putBounds 0 = .ok (.iload_n 1, 1) := by decide +kernel
theorem dX6_putBounds_1 : decode cX6_putBounds 1 = .ok (.ifCond .lt 34, 3) := by decide +kernel
theorem dX6_putBounds_4 : decode cX6_putBounds 4 = .ok (.iload_n 1, 1) := by decide +kernel
theorem dX6_putBounds_5 : decode cX6_putBounds 5 = .ok (.iconst 1, 1) := by decide +kernel
theorem dX6_putBounds_6 : decode cX6_putBounds 6 = .ok (.if_icmp .gt 29, 3) := by decide +kernel
theorem dX6_putBounds_9 : decode cX6_putBounds 9 = .ok (.iload_n 2, 1) := by decide +kernel
theorem dX6_putBounds_10 : decode cX6_putBounds 10 = .ok (.iconst 1, 1) := by decide +kernel
theorem dX6_putBounds_11 : decode cX6_putBounds 11 = .ok (.if_icmp .lt 24, 3) := by decide +kernel
theorem dX6_putBounds_14 : decode cX6_putBounds 14 = .ok (.iload_n 2, 1) := by decide +kernel
theorem dX6_putBounds_15 : decode cX6_putBounds 15 = .ok (.iload_n 3, 1) := by decide +kernel
theorem dX6_putBounds_16 : decode cX6_putBounds 16 = .ok (.if_icmp .ge 19, 3) := by decide +kernel
theorem dX6_putBounds_19 : decode cX6_putBounds 19 = .ok (.iload_n 3, 1) := by decide +kernel
theorem dX6_putBounds_20 : decode cX6_putBounds 20 = .ok (.iload_n 1, 1) := by decide +kernel
theorem dX6_putBounds_21 : decode cX6_putBounds 21 = .ok (.ifCond .ne 9, 3) := by decide +kernel
theorem dX6_putBounds_24 : decode cX6_putBounds 24 = .ok (.sipush 999, 3) := by decide +kernel
theorem dX6_putBounds_27 : decode cX6_putBounds 27 = .ok (.goto 5, 3) := by decide +kernel
theorem dX6_putBounds_30 : decode cX6_putBounds 30 = .ok (.bipush 99, 2) := by decide +kernel
theorem dX6_putBounds_32 : decode cX6_putBounds 32 = .ok (.if_icmp .le 5, 3) := by decide +kernel
theorem dX6_putBounds_35 : decode cX6_putBounds 35 = .ok (.iconst 0, 1) := by decide +kernel
theorem dX6_putBounds_36 : decode cX6_putBounds 36 = .ok (.ireturn, 1) := by decide +kernel
theorem dX6_putBounds_37 : decode cX6_putBounds 37 = .ok (.iload_n 1, 1) := by decide +kernel
theorem dX6_putBounds_38 : decode cX6_putBounds 38 = .ok (.ifCond .ne 16, 3) := by decide +kernel
theorem dX6_putBounds_41 : decode cX6_putBounds 41 = .ok (.aload_n 0, 1) := by decide +kernel
theorem dX6_putBounds_42 : decode cX6_putBounds 42 = .ok (.iload_n 2, 1) := by decide +kernel
theorem dX6_putBounds_43 : decode cX6_putBounds 43 = .ok (.putfield 32, 3) := by decide +kernel
theorem dX6_putBounds_46 : decode cX6_putBounds 46 = .ok (.aload_n 0, 1) := by decide +kernel
theorem dX6_putBounds_47 : decode cX6_putBounds 47 = .ok (.iload_n 3, 1) := by decide +kernel
theorem dX6_putBounds_48 : decode cX6_putBounds 48 = .ok (.putfield 36, 3) := by decide +kernel
theorem dX6_putBounds_51 : decode cX6_putBounds 51 = .ok (.goto 13, 3) := by decide +kernel
theorem dX6_putBounds_54 : decode cX6_putBounds 54 = .ok (.aload_n 0, 1) := by decide +kernel
theorem dX6_putBounds_55 : decode cX6_putBounds 55 = .ok (.iload_n 2, 1) := by decide +kernel
theorem dX6_putBounds_56 : decode cX6_putBounds 56 = .ok (.putfield 39, 3) := by decide +kernel
theorem dX6_putBounds_59 : decode cX6_putBounds 59 = .ok (.aload_n 0, 1) := by decide +kernel
theorem dX6_putBounds_60 : decode cX6_putBounds 60 = .ok (.iload_n 3, 1) := by decide +kernel
theorem dX6_putBounds_61 : decode cX6_putBounds 61 = .ok (.putfield 42, 3) := by decide +kernel
theorem dX6_putBounds_64 : decode cX6_putBounds 64 = .ok (.aload_n 0, 1) := by decide +kernel
theorem dX6_putBounds_65 : decode cX6_putBounds 65 = .ok (.invokevirtual 61, 3) := by decide +kernel
theorem dX6_putBounds_68 : decode cX6_putBounds 68 = .ok (.iconst 1, 1) := by decide +kernel
theorem dX6_putBounds_69 : decode cX6_putBounds 69 = .ok (.ireturn, 1) := by decide +kernel
theorem dX6_far_0 : decode cX6_far 0 = .ok (.aload_n 0, 1) := by decide +kernel
theorem dX6_far_1 : decode cX6_far 1 = .ok (.getfield 16, 3) := by decide +kernel
theorem dX6_far_4 : decode cX6_far 4 = .ok (.iload_n 1, 1) := by decide +kernel
theorem dX6_far_5 : decode cX6_far 5 = .ok (.iaload, 1) := by decide +kernel
theorem dX6_far_6 : decode cX6_far 6 = .ok (.aload_n 0, 1) := by decide +kernel
theorem dX6_far_7 : decode cX6_far 7 = .ok (.getfield 16, 3) := by decide +kernel
theorem dX6_far_10 : decode cX6_far 10 = .ok (.iload_n 2, 1) := by decide +kernel
theorem dX6_far_11 : decode cX6_far 11 = .ok (.iaload, 1) := by decide +kernel
theorem dX6_far_12 : decode cX6_far 12 = .ok (.isub, 1) := by decide +kernel
theorem dX6_far_13 : decode cX6_far 13 = .ok (.invokestatic 70, 3) := by decide +kernel
theorem dX6_far_16 : decode cX6_far 16 = .ok (.aload_n 0, 1) := by decide +kernel
theorem dX6_far_17 : decode cX6_far 17 = .ok (.getfield 20, 3) := by decide +kernel
theorem dX6_far_20 : decode cX6_far 20 = .ok (.iload_n 1, 1) := by decide +kernel
theorem dX6_far_21 : decode cX6_far 21 = .ok (.iaload, 1) := by decide +kernel
theorem dX6_far_22 : decode cX6_far 22 = .ok (.aload_n 0, 1) := by decide +kernel
theorem dX6_far_23 : decode cX6_far 23 = .ok (.getfield 20, 3) := by decide +kernel
theorem dX6_far_26 : decode cX6_far 26 = .ok (.iload_n 2, 1) := by decide +kernel
theorem dX6_far_27 : decode cX6_far 27 = .ok (.iaload, 1) := by decide +kernel
theorem dX6_far_28 : decode cX6_far 28 = .ok (.isub, 1) := by decide +kernel
theorem dX6_far_29 : decode cX6_far 29 = .ok (.invokestatic 70, 3) := by decide +kernel
theorem dX6_far_32 : decode cX6_far 32 = .ok (.invokestatic 76, 3) := by decide +kernel
theorem dX6_far_35 : decode cX6_far 35 = .ok (.ireturn, 1) := by decide +kernel
theorem dX6_steps_0 : decode cX6_steps 0 = .ok (.aload_n 0, 1) := by decide +kernel
theorem dX6_steps_1 : decode cX6_steps 1 = .ok (.getfield 16, 3) := by decide +kernel
theorem dX6_steps_4 : decode cX6_steps 4 = .ok (.iload_n 1, 1) := by decide +kernel
theorem dX6_steps_5 : decode cX6_steps 5 = .ok (.iaload, 1) := by decide +kernel
theorem dX6_steps_6 : decode cX6_steps 6 = .ok (.aload_n 0, 1) := by decide +kernel
theorem dX6_steps_7 : decode cX6_steps 7 = .ok (.getfield 16, 3) := by decide +kernel
theorem dX6_steps_10 : decode cX6_steps 10 = .ok (.iload_n 2, 1) := by decide +kernel
theorem dX6_steps_11 : decode cX6_steps 11 = .ok (.iaload, 1) := by decide +kernel
theorem dX6_steps_12 : decode cX6_steps 12 = .ok (.isub, 1) := by decide +kernel
theorem dX6_steps_13 : decode cX6_steps 13 = .ok (.invokestatic 70, 3) := by decide +kernel
theorem dX6_steps_16 : decode cX6_steps 16 = .ok (.aload_n 0, 1) := by decide +kernel
theorem dX6_steps_17 : decode cX6_steps 17 = .ok (.getfield 20, 3) := by decide +kernel
theorem dX6_steps_20 : decode cX6_steps 20 = .ok (.iload_n 1, 1) := by decide +kernel
theorem dX6_steps_21 : decode cX6_steps 21 = .ok (.iaload, 1) := by decide +kernel
theorem dX6_steps_22 : decode cX6_steps 22 = .ok (.aload_n 0, 1) := by decide +kernel
theorem dX6_steps_23 : decode cX6_steps 23 = .ok (.getfield 20, 3) := by decide +kernel
theorem dX6_steps_26 : decode cX6_steps 26 = .ok (.iload_n 2, 1) := by decide +kernel
theorem dX6_steps_27 : decode cX6_steps 27 = .ok (.iaload, 1) := by decide +kernel
theorem dX6_steps_28 : decode cX6_steps 28 = .ok (.isub, 1) := by decide +kernel
theorem dX6_steps_29 : decode cX6_steps 29 = .ok (.invokestatic 70, 3) := by decide +kernel
theorem dX6_steps_32 : decode cX6_steps 32 = .ok (.iadd, 1) := by decide +kernel
theorem dX6_steps_33 : decode cX6_steps 33 = .ok (.ireturn, 1) := by decide +kernel
theorem dX6_likeness_0 : decode cX6_likeness 0 = .ok (.aload_n 0, 1) := by decide +kernel
theorem dX6_likeness_1 : decode cX6_likeness 1 = .ok (.getfield 13, 3) := by decide +kernel
theorem dX6_likeness_4 : decode cX6_likeness 4 = .ok (.iconst 1, 1) := by decide +kernel
theorem dX6_likeness_5 : decode cX6_likeness 5 = .ok (.aaload, 1) := by decide +kernel
theorem dX6_likeness_6 : decode cX6_likeness 6 = .ok (.iload_n 1, 1) := by decide +kernel
theorem dX6_likeness_7 : decode cX6_likeness 7 = .ok (.iaload, 1) := by decide +kernel
theorem dX6_likeness_8 : decode cX6_likeness 8 = .ok (.aload_n 0, 1) := by decide +kernel
theorem dX6_likeness_9 : decode cX6_likeness 9 = .ok (.getfield 13, 3) := by decide +kernel
theorem dX6_likeness_12 : decode cX6_likeness 12 = .ok (.iconst 1, 1) := by decide +kernel
theorem dX6_likeness_13 : decode cX6_likeness 13 = .ok (.aaload, 1) := by decide +kernel
theorem dX6_likeness_14 : decode cX6_likeness 14 = .ok (.iload_n 2, 1) := by decide +kernel
theorem dX6_likeness_15 : decode cX6_likeness 15 = .ok (.iaload, 1) := by decide +kernel
theorem dX6_likeness_16 : decode cX6_likeness 16 = .ok (.if_icmp .ne 7, 3) := by decide +kernel
theorem dX6_likeness_19 : decode cX6_likeness 19 = .ok (.iconst 4, 1) := by decide +kernel
theorem dX6_likeness_20 : decode cX6_likeness 20 = .ok (.goto 4, 3) := by decide +kernel
theorem dX6_likeness_23 : decode cX6_likeness 23 = .ok (.iconst 0, 1) := by decide +kernel
theorem dX6_likeness_24 : decode cX6_likeness 24 = .ok (.istore_n 3, 1) := by decide +kernel
theorem dX6_likeness_25 : decode cX6_likeness 25 = .ok (.iload_n 3, 1) := by decide +kernel
theorem dX6_likeness_26 : decode cX6_likeness 26 = .ok (.aload_n 0, 1) := by decide +kernel
theorem dX6_likeness_27 : decode cX6_likeness 27 = .ok (.getfield 26, 3) := by decide +kernel
theorem dX6_likeness_30 : decode cX6_likeness 30 = .ok (.iload_n 1, 1) := by decide +kernel
theorem dX6_likeness_31 : decode cX6_likeness 31 = .ok (.iaload, 1) := by decide +kernel
theorem dX6_likeness_32 : decode cX6_likeness 32 = .ok (.aload_n 0, 1) := by decide +kernel
theorem dX6_likeness_33 : decode cX6_likeness 33 = .ok (.getfield 26, 3) := by decide +kernel
theorem dX6_likeness_36 : decode cX6_likeness 36 = .ok (.iload_n 2, 1) := by decide +kernel
theorem dX6_likeness_37 : decode cX6_likeness 37 = .ok (.iaload, 1) := by decide +kernel
theorem dX6_likeness_38 : decode cX6_likeness 38 = .ok (.if_icmp .ne 7, 3) := by decide +kernel
theorem dX6_likeness_41 : decode cX6_likeness 41 = .ok (.iconst 2, 1) := by decide +kernel
theorem dX6_likeness_42 : decode cX6_likeness 42 = .ok (.goto 4, 3) := by decide +kernel
theorem dX6_likeness_45 : decode cX6_likeness 45 = .ok (.iconst 0, 1) := by decide +kernel
theorem dX6_likeness_46 : decode cX6_likeness 46 = .ok (.iadd, 1) := by decide +kernel
theorem dX6_likeness_47 : decode cX6_likeness 47 = .ok (.istore_n 3, 1) := by decide +kernel
theorem dX6_likeness_48 : decode cX6_likeness 48 = .ok (.iload_n 3, 1) := by decide +kernel
theorem dX6_likeness_49 : decode cX6_likeness 49 = .ok (.aload_n 0, 1) := by decide +kernel
theorem dX6_likeness_50 : decode cX6_likeness 50 = .ok (.getfield 29, 3) := by decide +kernel
theorem dX6_likeness_53 : decode cX6_likeness 53 = .ok (.iload_n 1, 1) := by decide +kernel
theorem dX6_likeness_54 : decode cX6_likeness 54 = .ok (.iaload, 1) := by decide +kernel
theorem dX6_likeness_55 : decode cX6_likeness 55 = .ok (.iconst (-1), 1) := by decide +kernel
theorem dX6_likeness_56 : decode cX6_likeness 56 = .ok (.if_icmp .eq 22, 3) := by decide +kernel
theorem dX6_likeness_59 : decode cX6_likeness 59 = .ok (.aload_n 0, 1) := by decide +kernel
theorem dX6_likeness_60 : decode cX6_likeness 60 = .ok (.getfield 29, 3) := by decide +kernel
theorem dX6_likeness_63 : decode cX6_likeness 63 = .ok (.iload_n 1, 1) := by decide +kernel
theorem dX6_likeness_64 : decode cX6_likeness 64 = .ok (.iaload, 1) := by decide +kernel
theorem dX6_likeness_65 : decode cX6_likeness 65 = .ok (.aload_n 0, 1) := by decide +kernel
theorem dX6_likeness_66 : decode cX6_likeness 66 = .ok (.getfield 29, 3) := by decide +kernel
theorem dX6_likeness_69 : decode cX6_likeness 69 = .ok (.iload_n 2, 1) := by decide +kernel
theorem dX6_likeness_70 : decode cX6_likeness 70 = .ok (.iaload, 1) := by decide +kernel
theorem dX6_likeness_71 : decode cX6_likeness 71 = .ok (.if_icmp .ne 7, 3) := by decide +kernel
theorem dX6_likeness_74 : decode cX6_likeness 74 = .ok (.iconst 2, 1) := by decide +kernel
theorem dX6_likeness_75 : decode cX6_likeness 75 = .ok (.goto 4, 3) := by decide +kernel
theorem dX6_likeness_78 : decode cX6_likeness 78 = .ok (.iconst 0, 1) := by decide +kernel
theorem dX6_likeness_79 : decode cX6_likeness 79 = .ok (.iadd, 1) := by decide +kernel
theorem dX6_likeness_80 : decode cX6_likeness 80 = .ok (.istore_n 3, 1) := by decide +kernel
theorem dX6_likeness_81 : decode cX6_likeness 81 = .ok (.iload_n 3, 1) := by decide +kernel
theorem dX6_likeness_82 : decode cX6_likeness 82 = .ok (.iconst 0, 1) := by decide +kernel
theorem dX6_likeness_83 : decode cX6_likeness 83 = .ok (.bipush 6, 2) := by decide +kernel
theorem dX6_likeness_85 : decode cX6_likeness 85 = .ok (.aload_n 0, 1) := by decide +kernel
theorem dX6_likeness_86 : decode cX6_likeness 86 = .ok (.iload_n 1, 1) := by decide +kernel
theorem dX6_likeness_87 : decode cX6_likeness 87 = .ok (.iload_n 2, 1) := by decide +kernel
theorem dX6_likeness_88 : decode cX6_likeness 88 = .ok (.invokevirtual 80, 3) := by decide +kernel
theorem dX6_likeness_91 : decode cX6_likeness 91 = .ok (.isub, 1) := by decide +kernel
theorem dX6_likeness_92 : decode cX6_likeness 92 = .ok (.invokestatic 76, 3) := by decide +kernel
theorem dX6_likeness_95 : decode cX6_likeness 95 = .ok (.iadd, 1) := by decide +kernel
theorem dX6_likeness_96 : decode cX6_likeness 96 = .ok (.ireturn, 1) := by decide +kernel
theorem dX6_heightGap_0 : decode cX6_heightGap 0 = .ok (.aload_n 0, 1) := by decide +kernel
theorem dX6_heightGap_1 : decode cX6_heightGap 1 = .ok (.getfield 13, 3) := by decide +kernel
theorem dX6_heightGap_4 : decode cX6_heightGap 4 = .ok (.iconst 0, 1) := by decide +kernel
theorem dX6_heightGap_5 : decode cX6_heightGap 5 = .ok (.aaload, 1) := by decide +kernel
theorem dX6_heightGap_6 : decode cX6_heightGap 6 = .ok (.iload_n 1, 1) := by decide +kernel
theorem dX6_heightGap_7 : decode cX6_heightGap 7 = .ok (.iaload, 1) := by decide +kernel
theorem dX6_heightGap_8 : decode cX6_heightGap 8 = .ok (.aload_n 0, 1) := by decide +kernel
theorem dX6_heightGap_9 : decode cX6_heightGap 9 = .ok (.getfield 13, 3) := by decide +kernel
theorem dX6_heightGap_12 : decode cX6_heightGap 12 = .ok (.iconst 0, 1) := by decide +kernel
theorem dX6_heightGap_13 : decode cX6_heightGap 13 = .ok (.aaload, 1) := by decide +kernel
theorem dX6_heightGap_14 : decode cX6_heightGap 14 = .ok (.iload_n 2, 1) := by decide +kernel
theorem dX6_heightGap_15 : decode cX6_heightGap 15 = .ok (.iaload, 1) := by decide +kernel
theorem dX6_heightGap_16 : decode cX6_heightGap 16 = .ok (.isub, 1) := by decide +kernel
theorem dX6_heightGap_17 : decode cX6_heightGap 17 = .ok (.invokestatic 70, 3) := by decide +kernel
theorem dX6_heightGap_20 : decode cX6_heightGap 20 = .ok (.ireturn, 1) := by decide +kernel
theorem dX6_reckon_0 : decode cX6_reckon 0 = .ok (.iconst 0, 1) := by decide +kernel
theorem dX6_reckon_1 : decode cX6_reckon 1 = .ok (.istore_n 1, 1) := by decide +kernel
theorem dX6_reckon_2 : decode cX6_reckon 2 = .ok (.iload_n 1, 1) := by decide +kernel
theorem dX6_reckon_3 : decode cX6_reckon 3 = .ok (.aload_n 0, 1) := by decide +kernel
theorem dX6_reckon_4 : decode cX6_reckon 4 = .ok (.getfield 55, 3) := by decide +kernel
theorem dX6_reckon_7 : decode cX6_reckon 7 = .ok (.if_icmp .ge 84, 3) := by decide +kernel
theorem dX6_reckon_10 : decode cX6_reckon 10 = .ok (.aload_n 0, 1) := by decide +kernel
theorem dX6_reckon_11 : decode cX6_reckon 11 = .ok (.getfield 23, 3) := by decide +kernel
theorem dX6_reckon_14 : decode cX6_reckon 14 = .ok (.iload_n 1, 1) := by decide +kernel
theorem dX6_reckon_15 : decode cX6_reckon 15 = .ok (.aload_n 0, 1) := by decide +kernel
theorem dX6_reckon_16 : decode cX6_reckon 16 = .ok (.iload_n 1, 1) := by decide +kernel
theorem dX6_reckon_17 : decode cX6_reckon 17 = .ok (.invokevirtual 83, 3) := by decide +kernel
theorem dX6_reckon_20 : decode cX6_reckon 20 = .ok (.iastore, 1) := by decide +kernel
theorem dX6_reckon_21 : decode cX6_reckon 21 = .ok (.aload_n 0, 1) := by decide +kernel
theorem dX6_reckon_22 : decode cX6_reckon 22 = .ok (.getfield 26, 3) := by decide +kernel
theorem dX6_reckon_25 : decode cX6_reckon 25 = .ok (.iload_n 1, 1) := by decide +kernel
theorem dX6_reckon_26 : decode cX6_reckon 26 = .ok (.aload_n 0, 1) := by decide +kernel
theorem dX6_reckon_27 : decode cX6_reckon 27 = .ok (.getfield 23, 3) := by decide +kernel
theorem dX6_reckon_30 : decode cX6_reckon 30 = .ok (.iload_n 1, 1) := by decide +kernel
theorem dX6_reckon_31 : decode cX6_reckon 31 = .ok (.iaload, 1) := by decide +kernel
theorem dX6_reckon_32 : decode cX6_reckon 32 = .ok (.aload_n 0, 1) := by decide +kernel
theorem dX6_reckon_33 : decode cX6_reckon 33 = .ok (.getfield 32, 3) := by decide +kernel
theorem dX6_reckon_36 : decode cX6_reckon 36 = .ok (.aload_n 0, 1) := by decide +kernel
theorem dX6_reckon_37 : decode cX6_reckon 37 = .ok (.getfield 36, 3) := by decide +kernel
theorem dX6_reckon_40 : decode cX6_reckon 40 = .ok (.invokestatic 86, 3) := by decide +kernel
theorem dX6_reckon_43 : decode cX6_reckon 43 = .ok (.iastore, 1) := by decide +kernel
theorem dX6_reckon_44 : decode cX6_reckon 44 = .ok (.aload_n 0, 1) := by decide +kernel
theorem dX6_reckon_45 : decode cX6_reckon 45 = .ok (.getfield 29, 3) := by decide +kernel
theorem dX6_reckon_48 : decode cX6_reckon 48 = .ok (.iload_n 1, 1) := by decide +kernel
theorem dX6_reckon_49 : decode cX6_reckon 49 = .ok (.aload_n 0, 1) := by decide +kernel
theorem dX6_reckon_50 : decode cX6_reckon 50 = .ok (.getfield 13, 3) := by decide +kernel
theorem dX6_reckon_53 : decode cX6_reckon 53 = .ok (.iconst 2, 1) := by decide +kernel
theorem dX6_reckon_54 : decode cX6_reckon 54 = .ok (.aaload, 1) := by decide +kernel
theorem dX6_reckon_55 : decode cX6_reckon 55 = .ok (.iload_n 1, 1) := by decide +kernel
theorem dX6_reckon_56 : decode cX6_reckon 56 = .ok (.iaload, 1) := by decide +kernel
theorem dX6_reckon_57 : decode cX6_reckon 57 = .ok (.iconst (-1), 1) := by decide +kernel
theorem dX6_reckon_58 : decode cX6_reckon 58 = .ok (.if_icmp .ne 7, 3) := by decide +kernel
theorem dX6_reckon_61 : decode cX6_reckon 61 = .ok (.iconst (-1), 1) := by decide +kernel
theorem dX6_reckon_62 : decode cX6_reckon 62 = .ok (.goto 22, 3) := by decide +kernel
theorem dX6_reckon_65 : decode cX6_reckon 65 = .ok (.aload_n 0, 1) := by decide +kernel
theorem dX6_reckon_66 : decode cX6_reckon 66 = .ok (.getfield 13, 3) := by decide +kernel
theorem dX6_reckon_69 : decode cX6_reckon 69 = .ok (.iconst 2, 1) := by decide +kernel
theorem dX6_reckon_70 : decode cX6_reckon 70 = .ok (.aaload, 1) := by decide +kernel
theorem dX6_reckon_71 : decode cX6_reckon 71 = .ok (.iload_n 1, 1) := by decide +kernel
theorem dX6_reckon_72 : decode cX6_reckon 72 = .ok (.iaload, 1) := by decide +kernel
theorem dX6_reckon_73 : decode cX6_reckon 73 = .ok (.aload_n 0, 1) := by decide +kernel
theorem dX6_reckon_74 : decode cX6_reckon 74 = .ok (.getfield 39, 3) := by decide +kernel
theorem dX6_reckon_77 : decode cX6_reckon 77 = .ok (.aload_n 0, 1) := by decide +kernel
theorem dX6_reckon_78 : decode cX6_reckon 78 = .ok (.getfield 42, 3) := by decide +kernel
theorem dX6_reckon_81 : decode cX6_reckon 81 = .ok (.invokestatic 86, 3) := by decide +kernel
theorem dX6_reckon_84 : decode cX6_reckon 84 = .ok (.iastore, 1) := by decide +kernel
theorem dX6_reckon_85 : decode cX6_reckon 85 = .ok (.iinc 1 1, 3) := by decide +kernel
theorem dX6_reckon_88 : decode cX6_reckon 88 = .ok (.goto (-86), 3) := by decide +kernel
theorem dX6_reckon_91 : decode cX6_reckon 91 = .ok (.return_, 1) := by decide +kernel
theorem dX6_slopeOf_0 : decode cX6_slopeOf 0 = .ok (.aload_n 0, 1) := by decide +kernel
theorem dX6_slopeOf_1 : decode cX6_slopeOf 1 = .ok (.getfield 16, 3) := by decide +kernel
theorem dX6_slopeOf_4 : decode cX6_slopeOf 4 = .ok (.iload_n 1, 1) := by decide +kernel
theorem dX6_slopeOf_5 : decode cX6_slopeOf 5 = .ok (.iaload, 1) := by decide +kernel
theorem dX6_slopeOf_6 : decode cX6_slopeOf 6 = .ok (.ifCond .le 14, 3) := by decide +kernel
theorem dX6_slopeOf_9 : decode cX6_slopeOf 9 = .ok (.aload_n 0, 1) := by decide +kernel
theorem dX6_slopeOf_10 : decode cX6_slopeOf 10 = .ok (.iload_n 1, 1) := by decide +kernel
theorem dX6_slopeOf_11 : decode cX6_slopeOf 11 = .ok (.iload_n 1, 1) := by decide +kernel
theorem dX6_slopeOf_12 : decode cX6_slopeOf 12 = .ok (.iconst 1, 1) := by decide +kernel
theorem dX6_slopeOf_13 : decode cX6_slopeOf 13 = .ok (.isub, 1) := by decide +kernel
theorem dX6_slopeOf_14 : decode cX6_slopeOf 14 = .ok (.invokevirtual 90, 3) := by decide +kernel
theorem dX6_slopeOf_17 : decode cX6_slopeOf 17 = .ok (.goto 4, 3) := by decide +kernel
theorem dX6_slopeOf_20 : decode cX6_slopeOf 20 = .ok (.iconst 0, 1) := by decide +kernel
theorem dX6_slopeOf_21 : decode cX6_slopeOf 21 = .ok (.istore_n 2, 1) := by decide +kernel
theorem dX6_slopeOf_22 : decode cX6_slopeOf 22 = .ok (.iload_n 2, 1) := by decide +kernel
theorem dX6_slopeOf_23 : decode cX6_slopeOf 23 = .ok (.aload_n 0, 1) := by decide +kernel
theorem dX6_slopeOf_24 : decode cX6_slopeOf 24 = .ok (.getfield 16, 3) := by decide +kernel
theorem dX6_slopeOf_27 : decode cX6_slopeOf 27 = .ok (.iload_n 1, 1) := by decide +kernel
theorem dX6_slopeOf_28 : decode cX6_slopeOf 28 = .ok (.iaload, 1) := by decide +kernel
theorem dX6_slopeOf_29 : decode cX6_slopeOf 29 = .ok (.aload_n 0, 1) := by decide +kernel
theorem dX6_slopeOf_30 : decode cX6_slopeOf 30 = .ok (.getfield 49, 3) := by decide +kernel
theorem dX6_slopeOf_33 : decode cX6_slopeOf 33 = .ok (.iconst 1, 1) := by decide +kernel
theorem dX6_slopeOf_34 : decode cX6_slopeOf 34 = .ok (.isub, 1) := by decide +kernel
theorem dX6_slopeOf_35 : decode cX6_slopeOf 35 = .ok (.if_icmp .ge 14, 3) := by decide +kernel
theorem dX6_slopeOf_38 : decode cX6_slopeOf 38 = .ok (.aload_n 0, 1) := by decide +kernel
theorem dX6_slopeOf_39 : decode cX6_slopeOf 39 = .ok (.iload_n 1, 1) := by decide +kernel
theorem dX6_slopeOf_40 : decode cX6_slopeOf 40 = .ok (.iload_n 1, 1) := by decide +kernel
theorem dX6_slopeOf_41 : decode cX6_slopeOf 41 = .ok (.iconst 1, 1) := by decide +kernel
theorem dX6_slopeOf_42 : decode cX6_slopeOf 42 = .ok (.iadd, 1) := by decide +kernel
theorem dX6_slopeOf_43 : decode cX6_slopeOf 43 = .ok (.invokevirtual 90, 3) := by decide +kernel
theorem dX6_slopeOf_46 : decode cX6_slopeOf 46 = .ok (.goto 4, 3) := by decide +kernel
theorem dX6_slopeOf_49 : decode cX6_slopeOf 49 = .ok (.iconst 0, 1) := by decide +kernel
theorem dX6_slopeOf_50 : decode cX6_slopeOf 50 = .ok (.invokestatic 76, 3) := by decide +kernel
theorem dX6_slopeOf_53 : decode cX6_slopeOf 53 = .ok (.istore_n 2, 1) := by decide +kernel
theorem dX6_slopeOf_54 : decode cX6_slopeOf 54 = .ok (.iload_n 2, 1) := by decide +kernel
theorem dX6_slopeOf_55 : decode cX6_slopeOf 55 = .ok (.iload_n 1, 1) := by decide +kernel
theorem dX6_slopeOf_56 : decode cX6_slopeOf 56 = .ok (.aload_n 0, 1) := by decide +kernel
theorem dX6_slopeOf_57 : decode cX6_slopeOf 57 = .ok (.getfield 49, 3) := by decide +kernel
theorem dX6_slopeOf_60 : decode cX6_slopeOf 60 = .ok (.if_icmp .lt 17, 3) := by decide +kernel
theorem dX6_slopeOf_63 : decode cX6_slopeOf 63 = .ok (.aload_n 0, 1) := by decide +kernel
theorem dX6_slopeOf_64 : decode cX6_slopeOf 64 = .ok (.iload_n 1, 1) := by decide +kernel
theorem dX6_slopeOf_65 : decode cX6_slopeOf 65 = .ok (.iload_n 1, 1) := by decide +kernel
theorem dX6_slopeOf_66 : decode cX6_slopeOf 66 = .ok (.aload_n 0, 1) := by decide +kernel
theorem dX6_slopeOf_67 : decode cX6_slopeOf 67 = .ok (.getfield 49, 3) := by decide +kernel
theorem dX6_slopeOf_70 : decode cX6_slopeOf 70 = .ok (.isub, 1) := by decide +kernel
theorem dX6_slopeOf_71 : decode cX6_slopeOf 71 = .ok (.invokevirtual 90, 3) := by decide +kernel
theorem dX6_slopeOf_74 : decode cX6_slopeOf 74 = .ok (.goto 4, 3) := by decide +kernel
theorem dX6_slopeOf_77 : decode cX6_slopeOf 77 = .ok (.iconst 0, 1) := by decide +kernel
theorem dX6_slopeOf_78 : decode cX6_slopeOf 78 = .ok (.invokestatic 76, 3) := by decide +kernel
theorem dX6_slopeOf_81 : decode cX6_slopeOf 81 = .ok (.istore_n 2, 1) := by decide +kernel
theorem dX6_slopeOf_82 : decode cX6_slopeOf 82 = .ok (.iload_n 2, 1) := by decide +kernel
theorem dX6_slopeOf_83 : decode cX6_slopeOf 83 = .ok (.iload_n 1, 1) := by decide +kernel
theorem dX6_slopeOf_84 : decode cX6_slopeOf 84 = .ok (.aload_n 0, 1) := by decide +kernel
theorem dX6_slopeOf_85 : decode cX6_slopeOf 85 = .ok (.getfield 49, 3) := by decide +kernel
theorem dX6_slopeOf_88 : decode cX6_slopeOf 88 = .ok (.iadd, 1) := by decide +kernel
theorem dX6_slopeOf_89 : decode cX6_slopeOf 89 = .ok (.aload_n 0, 1) := by decide +kernel
theorem dX6_slopeOf_90 : decode cX6_slopeOf 90 = .ok (.getfield 55, 3) := by decide +kernel
theorem dX6_slopeOf_93 : decode cX6_slopeOf 93 = .ok (.if_icmp .ge 17, 3) := by decide +kernel
theorem dX6_slopeOf_96 : decode cX6_slopeOf 96 = .ok (.aload_n 0, 1) := by decide +kernel
theorem dX6_slopeOf_97 : decode cX6_slopeOf 97 = .ok (.iload_n 1, 1) := by decide +kernel
theorem dX6_slopeOf_98 : decode cX6_slopeOf 98 = .ok (.iload_n 1, 1) := by decide +kernel
theorem dX6_slopeOf_99 : decode cX6_slopeOf 99 = .ok (.aload_n 0, 1) := by decide +kernel
theorem dX6_slopeOf_100 : decode cX6_slopeOf 100 = .ok (.getfield 49, 3) := by decide +kernel
theorem dX6_slopeOf_103 : decode cX6_slopeOf 103 = .ok (.iadd, 1) := by decide +kernel
theorem dX6_slopeOf_104 : decode cX6_slopeOf 104 = .ok (.invokevirtual 90, 3) := by decide +kernel
theorem dX6_slopeOf_107 : decode cX6_slopeOf 107 = .ok (.goto 4, 3) := by decide +kernel
theorem dX6_slopeOf_110 : decode cX6_slopeOf 110 = .ok (.iconst 0, 1) := by decide +kernel
theorem dX6_slopeOf_111 : decode cX6_slopeOf 111 = .ok (.invokestatic 76, 3) := by decide +kernel
theorem dX6_slopeOf_114 : decode cX6_slopeOf 114 = .ok (.ireturn, 1) := by decide +kernel
theorem dX6_stepOf_0 : decode cX6_stepOf 0 = .ok (.iload_n 0, 1) := by decide +kernel
theorem dX6_stepOf_1 : decode cX6_stepOf 1 = .ok (.iload_n 1, 1) := by decide +kernel
theorem dX6_stepOf_2 : decode cX6_stepOf 2 = .ok (.if_icmp .ge 7, 3) := by decide +kernel
theorem dX6_stepOf_5 : decode cX6_stepOf 5 = .ok (.iconst 0, 1) := by decide +kernel
theorem dX6_stepOf_6 : decode cX6_stepOf 6 = .ok (.goto 13, 3) := by decide +kernel
theorem dX6_stepOf_9 : decode cX6_stepOf 9 = .ok (.iload_n 0, 1) := by decide +kernel
theorem dX6_stepOf_10 : decode cX6_stepOf 10 = .ok (.iload_n 2, 1) := by decide +kernel
theorem dX6_stepOf_11 : decode cX6_stepOf 11 = .ok (.if_icmp .ge 7, 3) := by decide +kernel
theorem dX6_stepOf_14 : decode cX6_stepOf 14 = .ok (.iconst 1, 1) := by decide +kernel
theorem dX6_stepOf_15 : decode cX6_stepOf 15 = .ok (.goto 4, 3) := by decide +kernel
theorem dX6_stepOf_18 : decode cX6_stepOf 18 = .ok (.iconst 2, 1) := by decide +kernel
theorem dX6_stepOf_19 : decode cX6_stepOf 19 = .ok (.ireturn, 1) := by decide +kernel
theorem dX7_init_0 : decode cX7_init 0 = .ok (.aload_n 0, 1) := by decide +kernel
theorem dX7_init_1 : decode cX7_init 1 = .ok (.invokespecial 3, 3) := by decide +kernel
theorem dX7_init_4 : decode cX7_init 4 = .ok (.aload_n 0, 1) := by decide +kernel
theorem dX7_init_5 : decode cX7_init 5 = .ok (.iconst (-1), 1) := by decide +kernel
theorem dX7_init_6 : decode cX7_init 6 = .ok (.putfield 9, 3) := by decide +kernel
theorem dX7_init_9 : decode cX7_init 9 = .ok (.aload_n 0, 1) := by decide +kernel
theorem dX7_init_10 : decode cX7_init 10 = .ok (.iconst (-1), 1) := by decide +kernel
theorem dX7_init_11 : decode cX7_init 11 = .ok (.putfield 15, 3) := by decide +kernel
theorem dX7_init_14 : decode cX7_init 14 = .ok (.aload_n 0, 1) := by decide +kernel
theorem dX7_init_15 : decode cX7_init 15 = .ok (.iconst (-1), 1) := by decide +kernel
theorem dX7_init_16 : decode cX7_init 16 = .ok (.putfield 18, 3) := by decide +kernel
theorem dX7_init_19 : decode cX7_init 19 = .ok (.aload_n 0, 1) := by decide +kernel
theorem dX7_init_20 : decode cX7_init 20 = .ok (.bipush 48, 2) := by decide +kernel
theorem dX7_init_22 : decode cX7_init 22 = .ok (.newarray .int, 2) := by decide +kernel
theorem dX7_init_24 : decode cX7_init 24 = .ok (.putfield 21, 3) := by decide +kernel
theorem dX7_init_27 : decode cX7_init 27 = .ok (.return_, 1) := by decide +kernel
theorem dX7_get_0 : decode cX7_get 0 = .ok (.aload_n 0, 1) := by decide +kernel
theorem dX7_get_1 : decode cX7_get 1 = .ok (.getfield 21, 3) := by decide +kernel
theorem dX7_get_4 : decode cX7_get 4 = .ok (.iload_n 1, 1) := by decide +kernel
theorem dX7_get_5 : decode cX7_get 5 = .ok (.bipush 6, 2) := by decide +kernel
theorem dX7_get_7 : decode cX7_get 7 = .ok (.imul, 1) := by decide +kernel
theorem dX7_get_8 : decode cX7_get 8 = .ok (.iload_n 2, 1) := by decide +kernel
theorem dX7_get_9 : decode cX7_get 9 = .ok (.iadd, 1) := by decide +kernel
theorem dX7_get_10 : decode cX7_get 10 = .ok (.iaload, 1) := by decide +kernel
theorem dX7_get_11 : decode cX7_get 11 = .ok (.ireturn, 1) := by decide +kernel
theorem dX7_set_0 : decode cX7_set 0 = .ok (.aload_n 0, 1) := by decide +kernel
theorem dX7_set_1 : decode cX7_set 1 = .ok (.getfield 21, 3) := by decide +kernel
theorem dX7_set_4 : decode cX7_set 4 = .ok (.iload_n 1, 1) := by decide +kernel
theorem dX7_set_5 : decode cX7_set 5 = .ok (.bipush 6, 2) := by decide +kernel
theorem dX7_set_7 : decode cX7_set 7 = .ok (.imul, 1) := by decide +kernel
theorem dX7_set_8 : decode cX7_set 8 = .ok (.iload_n 2, 1) := by decide +kernel
theorem dX7_set_9 : decode cX7_set 9 = .ok (.iadd, 1) := by decide +kernel
theorem dX7_set_10 : decode cX7_set 10 = .ok (.iload_n 3, 1) := by decide +kernel
theorem dX7_set_11 : decode cX7_set 11 = .ok (.iastore, 1) := by decide +kernel
theorem dX7_set_12 : decode cX7_set 12 = .ok (.return_, 1) := by decide +kernel
theorem dX7_depth_0 : decode cX7_depth 0 = .ok (.aload_n 0, 1) := by decide +kernel
theorem dX7_depth_1 : decode cX7_depth 1 = .ok (.getfield 25, 3) := by decide +kernel
theorem dX7_depth_4 : decode cX7_depth 4 = .ok (.ifCond .le 17, 3) := by decide +kernel
theorem dX7_depth_7 : decode cX7_depth 7 = .ok (.aload_n 0, 1) := by decide +kernel
theorem dX7_depth_8 : decode cX7_depth 8 = .ok (.aload_n 0, 1) := by decide +kernel
theorem dX7_depth_9 : decode cX7_depth 9 = .ok (.getfield 25, 3) := by decide +kernel
theorem dX7_depth_12 : decode cX7_depth 12 = .ok (.iconst 1, 1) := by decide +kernel
theorem dX7_depth_13 : decode cX7_depth 13 = .ok (.isub, 1) := by decide +kernel
theorem dX7_depth_14 : decode cX7_depth 14 = .ok (.iconst 1, 1) := by decide +kernel
theorem dX7_depth_15 : decode cX7_depth 15 = .ok (.invokevirtual 28, 3) := by decide +kernel
theorem dX7_depth_18 : decode cX7_depth 18 = .ok (.goto 4, 3) := by decide +kernel
theorem dX7_depth_21 : decode cX7_depth 21 = .ok (.iconst 0, 1) := by decide +kernel
theorem dX7_depth_22 : decode cX7_depth 22 = .ok (.ireturn, 1) := by decide +kernel
theorem dX7_allLayers_0 : decode cX7_allLayers 0 = .ok (.iconst 1, 1) := by decide +kernel
theorem dX7_allLayers_1 : decode cX7_allLayers 1 = .ok (.aload_n 0, 1) := by decide +kernel
theorem dX7_allLayers_2 : decode cX7_allLayers 2 = .ok (.getfield 25, 3) := by decide +kernel
theorem dX7_allLayers_5 : decode cX7_allLayers 5 = .ok (.ishl, 1) := by decide +kernel
theorem dX7_allLayers_6 : decode cX7_allLayers 6 = .ok (.iconst 1, 1) := by decide +kernel
theorem dX7_allLayers_7 : decode cX7_allLayers 7 = .ok (.isub, 1) := by decide +kernel
theorem dX7_allLayers_8 : decode cX7_allLayers 8 = .ok (.ireturn, 1) := by decide +kernel
theorem dX7_judge_0 : decode cX7_judge 0 = .ok (.aload_n 0, 1) := by decide +kernel
theorem dX7_judge_1 : decode cX7_judge 1 = .ok (.aload_n 1, 1) := by decide +kernel
theorem dX7_judge_2 : decode cX7_judge 2 = .ok (.aload_n 0, 1) := by decide +kernel
theorem dX7_judge_3 : decode cX7_judge 3 = .ok (.invokevirtual 32, 3) := by decide +kernel
theorem dX7_judge_6 : decode cX7_judge 6 = .ok (.putfield 15, 3) := by decide +kernel
theorem dX7_judge_9 : decode cX7_judge 9 = .ok (.aload_n 0, 1) := by decide +kernel
theorem dX7_judge_10 : decode cX7_judge 10 = .ok (.aload_n 0, 1) := by decide +kernel
theorem dX7_judge_11 : decode cX7_judge 11 = .ok (.getfield 15, 3) := by decide +kernel
theorem dX7_judge_14 : decode cX7_judge 14 = .ok (.iconst (-1), 1) := by decide +kernel
theorem dX7_judge_15 : decode cX7_judge 15 = .ok (.if_icmp .ne 7, 3) := by decide +kernel
theorem dX7_judge_18 : decode cX7_judge 18 = .ok (.iconst (-1), 1) := by decide +kernel
theorem dX7_judge_19 : decode cX7_judge 19 = .ok (.goto 12, 3) := by decide +kernel
theorem dX7_judge_22 : decode cX7_judge 22 = .ok (.aload_n 1, 1) := by decide +kernel
theorem dX7_judge_23 : decode cX7_judge 23 = .ok (.getfield 38, 3) := by decide +kernel
theorem dX7_judge_26 : decode cX7_judge 26 = .ok (.aload_n 0, 1) := by decide +kernel
theorem dX7_judge_27 : decode cX7_judge 27 = .ok (.getfield 15, 3) := by decide +kernel
theorem dX7_judge_30 : decode cX7_judge 30 = .ok (.iaload, 1) := by decide +kernel
theorem dX7_judge_31 : decode cX7_judge 31 = .ok (.putfield 18, 3) := by decide +kernel
theorem dX7_judge_34 : decode cX7_judge 34 = .ok (.return_, 1) := by decide +kernel
theorem dX7_readFrom_0 : decode cX7_readFrom 0 = .ok (.aload_n 0, 1) := by decide +kernel
theorem dX7_readFrom_1 : decode cX7_readFrom 1 = .ok (.iconst 0, 1) := by decide +kernel
theorem dX7_readFrom_2 : decode cX7_readFrom 2 = .ok (.putfield 25, 3) := by decide +kernel
theorem dX7_readFrom_5 : decode cX7_readFrom 5 = .ok (.iconst 0, 1) := by decide +kernel
theorem dX7_readFrom_6 : decode cX7_readFrom 6 = .ok (.istore_n 2, 1) := by decide +kernel
theorem dX7_readFrom_7 : decode cX7_readFrom 7 = .ok (.iload_n 2, 1) := by decide +kernel
theorem dX7_readFrom_8 : decode cX7_readFrom 8 = .ok (.bipush 8, 2) := by decide +kernel
theorem dX7_readFrom_10 : decode cX7_readFrom 10 = .ok (.if_icmp .ge 65, 3) := by decide +kernel
theorem dX7_readFrom_13 : decode cX7_readFrom 13 = .ok (.aload_n 0, 1) := by decide +kernel
theorem dX7_readFrom_14 : decode cX7_readFrom 14 = .ok (.aload_n 1, 1) := by decide +kernel
theorem dX7_readFrom_15 : decode cX7_readFrom 15 = .ok (.iload_n 2, 1) := by decide +kernel
theorem dX7_readFrom_16 : decode cX7_readFrom 16 = .ok (.invokevirtual 41, 3) := by decide +kernel
theorem dX7_readFrom_19 : decode cX7_readFrom 19 = .ok (.ifCond .eq 12, 3) := by decide +kernel
theorem dX7_readFrom_22 : decode cX7_readFrom 22 = .ok (.aload_n 0, 1) := by decide +kernel
theorem dX7_readFrom_23 : decode cX7_readFrom 23 = .ok (.aload_n 1, 1) := by decide +kernel
theorem dX7_readFrom_24 : decode cX7_readFrom 24 = .ok (.iload_n 2, 1) := by decide +kernel
theorem dX7_readFrom_25 : decode cX7_readFrom 25 = .ok (.invokevirtual 45, 3) := by decide +kernel
theorem dX7_readFrom_28 : decode cX7_readFrom 28 = .ok (.ifCond .ne 5, 3) := by decide +kernel
theorem dX7_readFrom_31 : decode cX7_readFrom 31 = .ok (.iconst 0, 1) := by decide +kernel
theorem dX7_readFrom_32 : decode cX7_readFrom 32 = .ok (.ireturn, 1) := by decide +kernel
theorem dX7_readFrom_33 : decode cX7_readFrom 33 = .ok (.aload_n 0, 1) := by decide +kernel
theorem dX7_readFrom_34 : decode cX7_readFrom 34 = .ok (.iload_n 2, 1) := by decide +kernel
theorem dX7_readFrom_35 : decode cX7_readFrom 35 = .ok (.iconst 1, 1) := by decide +kernel
theorem dX7_readFrom_36 : decode cX7_readFrom 36 = .ok (.iadd, 1) := by decide +kernel
theorem dX7_readFrom_37 : decode cX7_readFrom 37 = .ok (.putfield 25, 3) := by decide +kernel
theorem dX7_readFrom_40 : decode cX7_readFrom 40 = .ok (.aload_n 1, 1) := by decide +kernel
theorem dX7_readFrom_41 : decode cX7_readFrom 41 = .ok (.getfield 48, 3) := by decide +kernel
theorem dX7_readFrom_44 : decode cX7_readFrom 44 = .ok (.ifCond .ne 5, 3) := by decide +kernel
theorem dX7_readFrom_47 : decode cX7_readFrom 47 = .ok (.iconst 1, 1) := by decide +kernel
theorem dX7_readFrom_48 : decode cX7_readFrom 48 = .ok (.ireturn, 1) := by decide +kernel
theorem dX7_readFrom_49 : decode cX7_readFrom 49 = .ok (.aload_n 1, 1) := by decide +kernel
theorem dX7_readFrom_50 : decode cX7_readFrom 50 = .ok (.bipush 59, 2) := by decide +kernel
theorem dX7_readFrom_52 : decode cX7_readFrom 52 = .ok (.invokevirtual 53, 3) := by decide +kernel
theorem dX7_readFrom_55 : decode cX7_readFrom 55 = .ok (.ifCond .ne 5, 3) := by decide +kernel
theorem dX7_readFrom_58 : decode cX7_readFrom 58 = .ok (.iconst 0, 1) := by decide +kernel
theorem dX7_readFrom_59 : decode cX7_readFrom 59 = .ok (.ireturn, 1) := by decide +kernel
theorem dX7_readFrom_60 : decode cX7_readFrom 60 = .ok (.aload_n 1, 1) := by decide +kernel
theorem dX7_readFrom_61 : decode cX7_readFrom 61 = .ok (.getfield 48, 3) := by decide +kernel
theorem dX7_readFrom_64 : decode cX7_readFrom 64 = .ok (.ifCond .ne 5, 3) := by decide +kernel
theorem dX7_readFrom_67 : decode cX7_readFrom 67 = .ok (.iconst 1, 1) := by decide +kernel
theorem dX7_readFrom_68 : decode cX7_readFrom 68 = .ok (.ireturn, 1) := by decide +kernel
theorem dX7_readFrom_69 : decode cX7_readFrom 69 = .ok (.iinc 2 1, 3) := by decide +kernel
theorem dX7_readFrom_72 : decode cX7_readFrom 72 = .ok (.goto (-65), 3) := by decide +kernel
theorem dX7_readFrom_75 : decode cX7_readFrom 75 = .ok (.aload_n 1, 1) := by decide +kernel
theorem dX7_readFrom_76 : decode cX7_readFrom 76 = .ok (.aload_n 1, 1) := by decide +kernel
theorem dX7_readFrom_77 : decode cX7_readFrom 77 = .ok (.getfield 48, 3) := by decide +kernel
theorem dX7_readFrom_80 : decode cX7_readFrom 80 = .ok (.iconst 1, 1) := by decide +kernel
theorem dX7_readFrom_81 : decode cX7_readFrom 81 = .ok (.if_icmp .ne 7, 3) := by decide +kernel
theorem dX7_readFrom_84 : decode cX7_readFrom 84 = .ok (.iconst 2, 1) := by decide +kernel
theorem dX7_readFrom_85 : decode cX7_readFrom 85 = .ok (.goto 4, 3) := by decide +kernel
theorem dX7_readFrom_88 : decode cX7_readFrom 88 = .ok (.iconst 1, 1) := by decide +kernel
theorem dX7_readFrom_89 : decode cX7_readFrom 89 = .ok (.invokevirtual 57, 3) := by decide +kernel
theorem dX7_readFrom_92 : decode cX7_readFrom 92 = .ok (.ireturn, 1) := by decide +kernel
theorem dX7_readDepths_0 : decode cX7_readDepths 0 = .ok (.aload_n 0, 1) := by decide +kernel
theorem dX7_readDepths_1 : decode cX7_readDepths 1 = .ok (.invokevirtual 60, 3) := by decide +kernel
theorem dX7_readDepths_4 : decode cX7_readDepths 4 = .ok (.istore_n 3, 1) := by decide +kernel
theorem dX7_readDepths_5 : decode cX7_readDepths 5 = .ok (.aload_n 1, 1) := by decide +kernel
theorem dX7_readDepths_6 : decode cX7_readDepths 6 = .ok (.sipush 300, 3) := by decide +kernel
theorem dX7_readDepths_9 : decode cX7_readDepths 9 = .ok (.invokevirtual 64, 3) := by decide +kernel
theorem dX7_readDepths_12 : decode cX7_readDepths 12 = .ok (.ifCond .ne 5, 3) := by decide +kernel
theorem dX7_readDepths_15 : decode cX7_readDepths 15 = .ok (.iconst 0, 1) := by decide +kernel
theorem dX7_readDepths_16 : decode cX7_readDepths 16 = .ok (.ireturn, 1) := by decide +kernel
theorem dX7_readDepths_17 : decode cX7_readDepths 17 = .ok (.aload_n 1, 1) := by decide +kernel
theorem dX7_readDepths_18 : decode cX7_readDepths 18 = .ok (.getfield 67, 3) := by decide +kernel
theorem dX7_readDepths_21 : decode cX7_readDepths 21 = .ok (.iload_n 3, 1) := by decide +kernel
theorem dX7_readDepths_22 : decode cX7_readDepths 22 = .ok (.if_icmp .eq 9, 3) := by decide +kernel
theorem dX7_readDepths_25 : decode cX7_readDepths 25 = .ok (.aload_n 1, 1) := by decide +kernel
theorem dX7_readDepths_26 : decode cX7_readDepths 26 = .ok (.iconst 3, 1) := by decide +kernel
theorem dX7_readDepths_27 : decode cX7_readDepths 27 = .ok (.invokevirtual 57, 3) := by decide +kernel
theorem dX7_readDepths_30 : decode cX7_readDepths 30 = .ok (.ireturn, 1) := by decide +kernel
theorem dX7_readDepths_31 : decode cX7_readDepths 31 = .ok (.aload_n 0, 1) := by decide +kernel
theorem dX7_readDepths_32 : decode cX7_readDepths 32 = .ok (.iload_n 2, 1) := by decide +kernel
theorem dX7_readDepths_33 : decode cX7_readDepths 33 = .ok (.iconst 0, 1) := by decide +kernel
theorem dX7_readDepths_34 : decode cX7_readDepths 34 = .ok (.iload_n 3, 1) := by decide +kernel
theorem dX7_readDepths_35 : decode cX7_readDepths 35 = .ok (.invokevirtual 70, 3) := by decide +kernel
theorem dX7_readDepths_38 : decode cX7_readDepths 38 = .ok (.aload_n 1, 1) := by decide +kernel
theorem dX7_readDepths_39 : decode cX7_readDepths 39 = .ok (.invokevirtual 74, 3) := by decide +kernel
theorem dX7_readDepths_42 : decode cX7_readDepths 42 = .ok (.aload_n 1, 1) := by decide +kernel
theorem dX7_readDepths_43 : decode cX7_readDepths 43 = .ok (.bipush 45, 2) := by decide +kernel
theorem dX7_readDepths_45 : decode cX7_readDepths 45 = .ok (.invokevirtual 53, 3) := by decide +kernel
theorem dX7_readDepths_48 : decode cX7_readDepths 48 = .ok (.ifCond .eq 13, 3) := by decide +kernel
theorem dX7_readDepths_51 : decode cX7_readDepths 51 = .ok (.aload_n 1, 1) := by decide +kernel
theorem dX7_readDepths_52 : decode cX7_readDepths 52 = .ok (.sipush 300, 3) := by decide +kernel
theorem dX7_readDepths_55 : decode cX7_readDepths 55 = .ok (.invokevirtual 64, 3) := by decide +kernel
theorem dX7_readDepths_58 : decode cX7_readDepths 58 = .ok (.ifCond .ne 5, 3) := by decide +kernel
theorem dX7_readDepths_61 : decode cX7_readDepths 61 = .ok (.iconst 0, 1) := by decide +kernel
theorem dX7_readDepths_62 : decode cX7_readDepths 62 = .ok (.ireturn, 1) := by decide +kernel
theorem dX7_readDepths_63 : decode cX7_readDepths 63 = .ok (.aload_n 1, 1) := by decide +kernel
theorem dX7_readDepths_64 : decode cX7_readDepths 64 = .ok (.getfield 67, 3) := by decide +kernel
theorem dX7_readDepths_67 : decode cX7_readDepths 67 = .ok (.iload_n 3, 1) := by decide +kernel
theorem dX7_readDepths_68 : decode cX7_readDepths 68 = .ok (.if_icmp .gt 9, 3) := by decide +kernel
theorem dX7_readDepths_71 : decode cX7_readDepths 71 = .ok (.aload_n 1, 1) := by decide +kernel
theorem dX7_readDepths_72 : decode cX7_readDepths 72 = .ok (.iconst 3, 1) := by decide +kernel
theorem dX7_readDepths_73 : decode cX7_readDepths 73 = .ok (.invokevirtual 57, 3) := by decide +kernel
theorem dX7_readDepths_76 : decode cX7_readDepths 76 = .ok (.ireturn, 1) := by decide +kernel
theorem dX7_readDepths_77 : decode cX7_readDepths 77 = .ok (.aload_n 0, 1) := by decide +kernel
theorem dX7_readDepths_78 : decode cX7_readDepths 78 = .ok (.iload_n 2, 1) := by decide +kernel
theorem dX7_readDepths_79 : decode cX7_readDepths 79 = .ok (.iconst 1, 1) := by decide +kernel
theorem dX7_readDepths_80 : decode cX7_readDepths 80 = .ok (.aload_n 1, 1) := by decide +kernel
theorem dX7_readDepths_81 : decode cX7_readDepths 81 = .ok (.getfield 67, 3) := by decide +kernel
theorem dX7_readDepths_84 : decode cX7_readDepths 84 = .ok (.invokevirtual 70, 3) := by decide +kernel
theorem dX7_readDepths_87 : decode cX7_readDepths 87 = .ok (.aload_n 1, 1) := by decide +kernel
theorem dX7_readDepths_88 : decode cX7_readDepths 88 = .ok (.invokevirtual 74, 3) := by decide +kernel
theorem dX7_readDepths_91 : decode cX7_readDepths 91 = .ok (.iconst 1, 1) := by decide +kernel
theorem dX7_readDepths_92 : decode cX7_readDepths 92 = .ok (.ireturn, 1) := by decide +kernel
theorem dX7_readLook_0 : decode cX7_readLook 0 = .ok (.aload_n 0, 1) := by decide +kernel
theorem dX7_readLook_1 : decode cX7_readLook 1 = .ok (.aload_n 1, 1) := by decide +kernel
theorem dX7_readLook_2 : decode cX7_readLook 2 = .ok (.iload_n 2, 1) := by decide +kernel
theorem dX7_readLook_3 : decode cX7_readLook 3 = .ok (.iconst 2, 1) := by decide +kernel
theorem dX7_readLook_4 : decode cX7_readLook 4 = .ok (.iconst 0, 1) := by decide +kernel
theorem dX7_readLook_5 : decode cX7_readLook 5 = .ok (.bipush 6, 2) := by decide +kernel
theorem dX7_readLook_7 : decode cX7_readLook 7 = .ok (.invokevirtual 77, 3) := by decide +kernel
theorem dX7_readLook_10 : decode cX7_readLook 10 = .ok (.ifCond .eq 16, 3) := by decide +kernel
theorem dX7_readLook_13 : decode cX7_readLook 13 = .ok (.aload_n 0, 1) := by decide +kernel
theorem dX7_readLook_14 : decode cX7_readLook 14 = .ok (.aload_n 1, 1) := by decide +kernel
theorem dX7_readLook_15 : decode cX7_readLook 15 = .ok (.iload_n 2, 1) := by decide +kernel
theorem dX7_readLook_16 : decode cX7_readLook 16 = .ok (.iconst 3, 1) := by decide +kernel
theorem dX7_readLook_17 : decode cX7_readLook 17 = .ok (.bipush 6, 2) := by decide +kernel
theorem dX7_readLook_19 : decode cX7_readLook 19 = .ok (.iconst 5, 1) := by decide +kernel
theorem dX7_readLook_20 : decode cX7_readLook 20 = .ok (.invokevirtual 77, 3) := by decide +kernel
theorem dX7_readLook_23 : decode cX7_readLook 23 = .ok (.ifCond .ne 5, 3) := by decide +kernel
theorem dX7_readLook_26 : decode cX7_readLook 26 = .ok (.iconst 0, 1) := by decide +kernel
theorem dX7_readLook_27 : decode cX7_readLook 27 = .ok (.ireturn, 1) := by decide +kernel
theorem dX7_readLook_28 : decode cX7_readLook 28 = .ok (.aload_n 1, 1) := by decide +kernel
theorem dX7_readLook_29 : decode cX7_readLook 29 = .ok (.bipush 11, 2) := by decide +kernel
theorem dX7_readLook_31 : decode cX7_readLook 31 = .ok (.iconst 1, 1) := by decide +kernel
theorem dX7_readLook_32 : decode cX7_readLook 32 = .ok (.invokevirtual 81, 3) := by decide +kernel
theorem dX7_readLook_35 : decode cX7_readLook 35 = .ok (.istore_n 3, 1) := by decide +kernel
theorem dX7_readLook_36 : decode cX7_readLook 36 = .ok (.aload_n 0, 1) := by decide +kernel
theorem dX7_readLook_37 : decode cX7_readLook 37 = .ok (.iload_n 2, 1) := by decide +kernel
theorem dX7_readLook_38 : decode cX7_readLook 38 = .ok (.iconst 4, 1) := by decide +kernel
theorem dX7_readLook_39 : decode cX7_readLook 39 = .ok (.iload_n 3, 1) := by decide +kernel
theorem dX7_readLook_40 : decode cX7_readLook 40 = .ok (.ifCond .eq 7, 3) := by decide +kernel
theorem dX7_readLook_43 : decode cX7_readLook 43 = .ok (.iconst 1, 1) := by decide +kernel
theorem dX7_readLook_44 : decode cX7_readLook 44 = .ok (.goto 4, 3) := by decide +kernel
theorem dX7_readLook_47 : decode cX7_readLook 47 = .ok (.iconst 0, 1) := by decide +kernel
theorem dX7_readLook_48 : decode cX7_readLook 48 = .ok (.invokevirtual 70, 3) := by decide +kernel
theorem dX7_readLook_51 : decode cX7_readLook 51 = .ok (.iload_n 3, 1) := by decide +kernel
theorem dX7_readLook_52 : decode cX7_readLook 52 = .ok (.ifCond .eq 7, 3) := by decide +kernel
theorem dX7_readLook_55 : decode cX7_readLook 55 = .ok (.aload_n 1, 1) := by decide +kernel
theorem dX7_readLook_56 : decode cX7_readLook 56 = .ok (.invokevirtual 74, 3) := by decide +kernel
theorem dX7_readLook_59 : decode cX7_readLook 59 = .ok (.aload_n 0, 1) := by decide +kernel
theorem dX7_readLook_60 : decode cX7_readLook 60 = .ok (.aload_n 1, 1) := by decide +kernel
theorem dX7_readLook_61 : decode cX7_readLook 61 = .ok (.iload_n 2, 1) := by decide +kernel
theorem dX7_readLook_62 : decode cX7_readLook 62 = .ok (.invokevirtual 85, 3) := by decide +kernel
theorem dX7_readLook_65 : decode cX7_readLook 65 = .ok (.ireturn, 1) := by decide +kernel
theorem dX7_readWord_0 : decode cX7_readWord 0 = .ok (.aload_n 1, 1) := by decide +kernel
theorem dX7_readWord_1 : decode cX7_readWord 1 = .ok (.iload 4, 2) := by decide +kernel
theorem dX7_readWord_3 : decode cX7_readWord 3 = .ok (.iload 5, 2) := by decide +kernel
theorem dX7_readWord_5 : decode cX7_readWord 5 = .ok (.invokevirtual 81, 3) := by decide +kernel
theorem dX7_readWord_8 : decode cX7_readWord 8 = .ok (.ifCond .ne 9, 3) := by decide +kernel
theorem dX7_readWord_11 : decode cX7_readWord 11 = .ok (.aload_n 1, 1) := by decide +kernel
theorem dX7_readWord_12 : decode cX7_readWord 12 = .ok (.iconst 1, 1) := by decide +kernel
theorem dX7_readWord_13 : decode cX7_readWord 13 = .ok (.invokevirtual 57, 3) := by decide +kernel
theorem dX7_readWord_16 : decode cX7_readWord 16 = .ok (.ireturn, 1) := by decide +kernel
theorem dX7_readWord_17 : decode cX7_readWord 17 = .ok (.aload_n 0, 1) := by decide +kernel
theorem dX7_readWord_18 : decode cX7_readWord 18 = .ok (.iload_n 2, 1) := by decide +kernel
theorem dX7_readWord_19 : decode cX7_readWord 19 = .ok (.iload_n 3, 1) := by decide +kernel
theorem dX7_readWord_20 : decode cX7_readWord 20 = .ok (.aload_n 1, 1) := by decide +kernel
theorem dX7_readWord_21 : decode cX7_readWord 21 = .ok (.getfield 67, 3) := by decide +kernel
theorem dX7_readWord_24 : decode cX7_readWord 24 = .ok (.iload 4, 2) := by decide +kernel
theorem dX7_readWord_26 : decode cX7_readWord 26 = .ok (.isub, 1) := by decide +kernel
theorem dX7_readWord_27 : decode cX7_readWord 27 = .ok (.invokevirtual 70, 3) := by decide +kernel
theorem dX7_readWord_30 : decode cX7_readWord 30 = .ok (.aload_n 1, 1) := by decide +kernel
theorem dX7_readWord_31 : decode cX7_readWord 31 = .ok (.invokevirtual 74, 3) := by decide +kernel
theorem dX7_readWord_34 : decode cX7_readWord 34 = .ok (.iconst 1, 1) := by decide +kernel
theorem dX7_readWord_35 : decode cX7_readWord 35 = .ok (.ireturn, 1) := by decide +kernel
theorem dX7_readStones_0 : decode cX7_readStones 0 = .ok (.aload_n 0, 1) := by decide +kernel
theorem dX7_readStones_1 : decode cX7_readStones 1 = .ok (.iload_n 2, 1) := by decide +kernel
theorem dX7_readStones_2 : decode cX7_readStones 2 = .ok (.iconst 5, 1) := by decide +kernel
theorem dX7_readStones_3 : decode cX7_readStones 3 = .ok (.iconst 0, 1) := by decide +kernel
theorem dX7_readStones_4 : decode cX7_readStones 4 = .ok (.invokevirtual 70, 3) := by decide +kernel
theorem dX7_readStones_7 : decode cX7_readStones 7 = .ok (.aload_n 1, 1) := by decide +kernel
theorem dX7_readStones_8 : decode cX7_readStones 8 = .ok (.bipush 12, 2) := by decide +kernel
theorem dX7_readStones_10 : decode cX7_readStones 10 = .ok (.iconst 1, 1) := by decide +kernel
theorem dX7_readStones_11 : decode cX7_readStones 11 = .ok (.invokevirtual 81, 3) := by decide +kernel
theorem dX7_readStones_14 : decode cX7_readStones 14 = .ok (.ifCond .ne 5, 3) := by decide +kernel
theorem dX7_readStones_17 : decode cX7_readStones 17 = .ok (.iconst 1, 1) := by decide +kernel
theorem dX7_readStones_18 : decode cX7_readStones 18 = .ok (.ireturn, 1) := by decide +kernel
theorem dX7_readStones_19 : decode cX7_readStones 19 = .ok (.aload_n 1, 1) := by decide +kernel
theorem dX7_readStones_20 : decode cX7_readStones 20 = .ok (.invokevirtual 74, 3) := by decide +kernel
theorem dX7_readStones_23 : decode cX7_readStones 23 = .ok (.aload_n 1, 1) := by decide +kernel
theorem dX7_readStones_24 : decode cX7_readStones 24 = .ok (.bipush 99, 2) := by decide +kernel
theorem dX7_readStones_26 : decode cX7_readStones 26 = .ok (.invokevirtual 64, 3) := by decide +kernel
theorem dX7_readStones_29 : decode cX7_readStones 29 = .ok (.ifCond .ne 5, 3) := by decide +kernel
theorem dX7_readStones_32 : decode cX7_readStones 32 = .ok (.iconst 0, 1) := by decide +kernel
theorem dX7_readStones_33 : decode cX7_readStones 33 = .ok (.ireturn, 1) := by decide +kernel
theorem dX7_readStones_34 : decode cX7_readStones 34 = .ok (.aload_n 0, 1) := by decide +kernel
theorem dX7_readStones_35 : decode cX7_readStones 35 = .ok (.iload_n 2, 1) := by decide +kernel
theorem dX7_readStones_36 : decode cX7_readStones 36 = .ok (.iconst 5, 1) := by decide +kernel
theorem dX7_readStones_37 : decode cX7_readStones 37 = .ok (.aload_n 1, 1) := by decide +kernel
theorem dX7_readStones_38 : decode cX7_readStones 38 = .ok (.getfield 67, 3) := by decide +kernel
theorem dX7_readStones_41 : decode cX7_readStones 41 = .ok (.invokevirtual 70, 3) := by decide +kernel
theorem dX7_readStones_44 : decode cX7_readStones 44 = .ok (.aload_n 1, 1) := by decide +kernel
theorem dX7_readStones_45 : decode cX7_readStones 45 = .ok (.invokevirtual 74, 3) := by decide +kernel
theorem dX7_readStones_48 : decode cX7_readStones 48 = .ok (.iconst 1, 1) := by decide +kernel
theorem dX7_readStones_49 : decode cX7_readStones 49 = .ok (.ireturn, 1) := by decide +kernel
theorem dX8_init_0 : decode cX8_init 0 = .ok (.aload_n 0, 1) := by decide +kernel
theorem dX8_init_1 : decode cX8_init 1 = .ok (.invokespecial 3, 3) := by decide +kernel
theorem dX8_init_4 : decode cX8_init 4 = .ok (.aload_n 0, 1) := by decide +kernel
theorem dX8_init_5 : decode cX8_init 5 = .ok (.bipush 6, 2) := by decide +kernel
theorem dX8_init_7 : decode cX8_init 7 = .ok (.bipush 8, 2) := by decide +kernel
theorem dX8_init_9 : decode cX8_init 9 = .ok (.multianewarray 9 2, 4) := by decide +kernel
theorem dX8_init_13 : decode cX8_init 13 = .ok (.putfield 11, 3) := by decide +kernel
theorem dX8_init_16 : decode cX8_init 16 = .ok (.aload_n 0, 1) := by decide +kernel
theorem dX8_init_17 : decode cX8_init 17 = .ok (.bipush 6, 2) := by decide +kernel
theorem dX8_init_19 : decode cX8_init 19 = .ok (.newarray .int, 2) := by decide +kernel
theorem dX8_init_21 : decode cX8_init 21 = .ok (.putfield 16, 3) := by decide +kernel
theorem dX8_init_24 : decode cX8_init 24 = .ok (.aload_n 0, 1) := by decide +kernel
theorem dX8_init_25 : decode cX8_init 25 = .ok (.aload_n 1, 1) := by decide +kernel
theorem dX8_init_26 : decode cX8_init 26 = .ok (.putfield 20, 3) := by decide +kernel
theorem dX8_init_29 : decode cX8_init 29 = .ok (.aload_n 0, 1) := by decide +kernel
theorem dX8_init_30 : decode cX8_init 30 = .ok (.aload_n 2, 1) := by decide +kernel
theorem dX8_init_31 : decode cX8_init 31 = .ok (.putfield 24, 3) := by decide +kernel
theorem dX8_init_34 : decode cX8_init 34 = .ok (.aload_n 0, 1) := by decide +kernel
theorem dX8_init_35 : decode cX8_init 35 = .ok (.aload_n 3, 1) := by decide +kernel
theorem dX8_init_36 : decode cX8_init 36 = .ok (.putfield 28, 3) := by decide +kernel
theorem dX8_init_39 : decode cX8_init 39 = .ok (.return_, 1) := by decide +kernel
theorem dX8_tallyBores_0 : decode cX8_tallyBores 0 = .ok (.iconst 0, 1) := by decide +kernel
theorem dX8_tallyBores_1 : decode cX8_tallyBores 1 = .ok (.istore_n 1, 1) := by decide +kernel
theorem dX8_tallyBores_2 : decode cX8_tallyBores 2 = .ok (.iload_n 1, 1) := by decide +kernel
theorem dX8_tallyBores_3 : decode cX8_tallyBores 3 = .ok (.bipush 6, 2) := by decide +kernel
theorem dX8_tallyBores_5 : decode cX8_tallyBores 5 = .ok (.if_icmp .ge 32, 3) := by decide +kernel
theorem dX8_tallyBores_8 : decode cX8_tallyBores 8 = .ok (.iconst 0, 1) := by decide +kernel
theorem dX8_tallyBores_9 : decode cX8_tallyBores 9 = .ok (.istore_n 2, 1) := by decide +kernel
theorem dX8_tallyBores_10 : decode cX8_tallyBores 10 = .ok (.iload_n 2, 1) := by decide +kernel
theorem dX8_tallyBores_11 : decode cX8_tallyBores 11 = .ok (.bipush 8, 2) := by decide +kernel
theorem dX8_tallyBores_13 : decode cX8_tallyBores 13 = .ok (.if_icmp .ge 18, 3) := by decide +kernel
theorem dX8_tallyBores_16 : decode cX8_tallyBores 16 = .ok (.aload_n 0, 1) := by decide +kernel
theorem dX8_tallyBores_17 : decode cX8_tallyBores 17 = .ok (.getfield 11, 3) := by decide +kernel
theorem dX8_tallyBores_20 : decode cX8_tallyBores 20 = .ok (.iload_n 1, 1) := by decide +kernel
theorem dX8_tallyBores_21 : decode cX8_tallyBores 21 = .ok (.aaload, 1) := by decide +kernel
theorem dX8_tallyBores_22 : decode cX8_tallyBores 22 = .ok (.iload_n 2, 1) := by decide +kernel
theorem dX8_tallyBores_23 : decode cX8_tallyBores 23 = .ok (.iconst 0, 1) := by decide +kernel
theorem dX8_tallyBores_24 : decode cX8_tallyBores 24 = .ok (.iastore, 1) := by decide +kernel
theorem dX8_tallyBores_25 : decode cX8_tallyBores 25 = .ok (.iinc 2 1, 3) := by decide +kernel
theorem dX8_tallyBores_28 : decode cX8_tallyBores 28 = .ok (.goto (-18), 3) := by decide +kernel
theorem dX8_tallyBores_31 : decode cX8_tallyBores 31 = .ok (.iinc 1 1, 3) := by decide +kernel
theorem dX8_tallyBores_34 : decode cX8_tallyBores 34 = .ok (.goto (-32), 3) := by decide +kernel
theorem dX8_tallyBores_37 : decode cX8_tallyBores 37 = .ok (.iconst 0, 1) := by decide +kernel
theorem dX8_tallyBores_38 : decode cX8_tallyBores 38 = .ok (.istore_n 1, 1) := by decide +kernel
theorem dX8_tallyBores_39 : decode cX8_tallyBores 39 = .ok (.iload_n 1, 1) := by decide +kernel
theorem dX8_tallyBores_40 : decode cX8_tallyBores 40 = .ok (.aload_n 0, 1) := by decide +kernel
theorem dX8_tallyBores_41 : decode cX8_tallyBores 41 = .ok (.getfield 24, 3) := by decide +kernel
theorem dX8_tallyBores_44 : decode cX8_tallyBores 44 = .ok (.getfield 32, 3) := by decide +kernel
theorem dX8_tallyBores_47 : decode cX8_tallyBores 47 = .ok (.if_icmp .ge 62, 3) := by decide +kernel
theorem dX8_tallyBores_50 : decode cX8_tallyBores 50 = .ok (.aload_n 0, 1) := by decide +kernel
theorem dX8_tallyBores_51 : decode cX8_tallyBores 51 = .ok (.getfield 24, 3) := by decide +kernel
theorem dX8_tallyBores_54 : decode cX8_tallyBores 54 = .ok (.getfield 38, 3) := by decide +kernel
theorem dX8_tallyBores_57 : decode cX8_tallyBores 57 = .ok (.aload_n 0, 1) := by decide +kernel
theorem dX8_tallyBores_58 : decode cX8_tallyBores 58 = .ok (.getfield 24, 3) := by decide +kernel
theorem dX8_tallyBores_61 : decode cX8_tallyBores 61 = .ok (.getfield 42, 3) := by decide +kernel
theorem dX8_tallyBores_64 : decode cX8_tallyBores 64 = .ok (.iload_n 1, 1) := by decide +kernel
theorem dX8_tallyBores_65 : decode cX8_tallyBores 65 = .ok (.iaload, 1) := by decide +kernel
theorem dX8_tallyBores_66 : decode cX8_tallyBores 66 = .ok (.aaload, 1) := by decide +kernel
theorem dX8_tallyBores_67 : decode cX8_tallyBores 67 = .ok (.astore_n 2, 1) := by decide +kernel
theorem dX8_tallyBores_68 : decode cX8_tallyBores 68 = .ok (.aload_n 0, 1) := by decide +kernel
theorem dX8_tallyBores_69 : decode cX8_tallyBores 69 = .ok (.getfield 20, 3) := by decide +kernel
theorem dX8_tallyBores_72 : decode cX8_tallyBores 72 = .ok (.getfield 45, 3) := by decide +kernel
theorem dX8_tallyBores_75 : decode cX8_tallyBores 75 = .ok (.iconst 4, 1) := by decide +kernel
theorem dX8_tallyBores_76 : decode cX8_tallyBores 76 = .ok (.aaload, 1) := by decide +kernel
theorem dX8_tallyBores_77 : decode cX8_tallyBores 77 = .ok (.aload_n 2, 1) := by decide +kernel
theorem dX8_tallyBores_78 : decode cX8_tallyBores 78 = .ok (.getfield 50, 3) := by decide +kernel
theorem dX8_tallyBores_81 : decode cX8_tallyBores 81 = .ok (.iaload, 1) := by decide +kernel
theorem dX8_tallyBores_82 : decode cX8_tallyBores 82 = .ok (.istore_n 3, 1) := by decide +kernel
theorem dX8_tallyBores_83 : decode cX8_tallyBores 83 = .ok (.iload_n 3, 1) := by decide +kernel
theorem dX8_tallyBores_84 : decode cX8_tallyBores 84 = .ok (.iconst (-1), 1) := by decide +kernel
theorem dX8_tallyBores_85 : decode cX8_tallyBores 85 = .ok (.if_icmp .eq 18, 3) := by decide +kernel
theorem dX8_tallyBores_88 : decode cX8_tallyBores 88 = .ok (.aload_n 0, 1) := by decide +kernel
theorem dX8_tallyBores_89 : decode cX8_tallyBores 89 = .ok (.getfield 11, 3) := by decide +kernel
theorem dX8_tallyBores_92 : decode cX8_tallyBores 92 = .ok (.iload_n 3, 1) := by decide +kernel
theorem dX8_tallyBores_93 : decode cX8_tallyBores 93 = .ok (.aaload, 1) := by decide +kernel
theorem dX8_tallyBores_94 : decode cX8_tallyBores 94 = .ok (.aload_n 2, 1) := by decide +kernel
theorem dX8_tallyBores_95 : decode cX8_tallyBores 95 = .ok (.getfield 55, 3) := by decide +kernel
theorem dX8_tallyBores_98 : decode cX8_tallyBores 98 = .ok (.dup2, 1) := by decide +kernel
theorem dX8_tallyBores_99 : decode cX8_tallyBores 99 = .ok (.iaload, 1) := by decide +kernel
theorem dX8_tallyBores_100 : decode cX8_tallyBores 100 = .ok (.iconst 1, 1) := by decide +kernel
theorem dX8_tallyBores_101 : decode cX8_tallyBores 101 = .ok (.iadd, 1) := by decide +kernel
theorem dX8_tallyBores_102 : decode cX8_tallyBores 102 = .ok (.iastore, 1) := by decide +kernel
theorem dX8_tallyBores_103 : decode cX8_tallyBores 103 = .ok (.iinc 1 1, 3) := by decide +kernel
theorem dX8_tallyBores_106 : decode cX8_tallyBores 106 = .ok (.goto (-67), 3) := by decide +kernel
theorem dX8_tallyBores_109 : decode cX8_tallyBores 109 = .ok (.iconst 0, 1) := by decide +kernel
theorem dX8_tallyBores_110 : decode cX8_tallyBores 110 = .ok (.istore_n 1, 1) := by decide +kernel
theorem dX8_tallyBores_111 : decode cX8_tallyBores 111 = .ok (.iload_n 1, 1) := by decide +kernel
theorem dX8_tallyBores_112 : decode cX8_tallyBores 112 = .ok (.bipush 6, 2) := by decide +kernel
theorem dX8_tallyBores_114 : decode cX8_tallyBores 114 = .ok (.if_icmp .ge 20, 3) := by decide +kernel
theorem dX8_tallyBores_117 : decode cX8_tallyBores 117 = .ok (.aload_n 0, 1) := by decide +kernel
theorem dX8_tallyBores_118 : decode cX8_tallyBores 118 = .ok (.getfield 16, 3) := by decide +kernel
theorem dX8_tallyBores_121 : decode cX8_tallyBores 121 = .ok (.iload_n 1, 1) := by decide +kernel
theorem dX8_tallyBores_122 : decode cX8_tallyBores 122 = .ok (.aload_n 0, 1) := by decide +kernel
theorem dX8_tallyBores_123 : decode cX8_tallyBores 123 = .ok (.iload_n 1, 1) := by decide +kernel
theorem dX8_tallyBores_124 : decode cX8_tallyBores 124 = .ok (.invokevirtual 58, 3) := by decide +kernel
theorem dX8_tallyBores_127 : decode cX8_tallyBores 127 = .ok (.iastore, 1) := by decide +kernel
theorem dX8_tallyBores_128 : decode cX8_tallyBores 128 = .ok (.iinc 1 1, 3) := by decide +kernel
theorem dX8_tallyBores_131 : decode cX8_tallyBores 131 = .ok (.goto (-20), 3) := by decide +kernel
theorem dX8_tallyBores_134 : decode cX8_tallyBores 134 = .ok (.return_, 1) := by decide +kernel
theorem dX8_countAgreeing_0 : decode cX8_countAgreeing 0 = .ok (.iconst 0, 1) := by decide +kernel
theorem dX8_countAgreeing_1 : decode cX8_countAgreeing 1 = .ok (.istore_n 1, 1) := by decide +kernel
theorem dX8_countAgreeing_2 : decode cX8_countAgreeing 2 = .ok (.iconst 0, 1) := by decide +kernel
theorem dX8_countAgreeing_3 : decode cX8_countAgreeing 3 = .ok (.istore_n 2, 1) := by decide +kernel
theorem dX8_countAgreeing_4 : decode cX8_countAgreeing 4 = .ok (.iload_n 2, 1) := by decide +kernel
theorem dX8_countAgreeing_5 : decode cX8_countAgreeing 5 = .ok (.aload_n 0, 1) := by decide +kernel
theorem dX8_countAgreeing_6 : decode cX8_countAgreeing 6 = .ok (.getfield 20, 3) := by decide +kernel
theorem dX8_countAgreeing_9 : decode cX8_countAgreeing 9 = .ok (.getfield 62, 3) := by decide +kernel
theorem dX8_countAgreeing_12 : decode cX8_countAgreeing 12 = .ok (.if_icmp .ge 32, 3) := by decide +kernel
theorem dX8_countAgreeing_15 : decode cX8_countAgreeing 15 = .ok (.aload_n 0, 1) := by decide +kernel
theorem dX8_countAgreeing_16 : decode cX8_countAgreeing 16 = .ok (.iload_n 2, 1) := by decide +kernel
theorem dX8_countAgreeing_17 : decode cX8_countAgreeing 17 = .ok (.invokevirtual 65, 3) := by decide +kernel
theorem dX8_countAgreeing_20 : decode cX8_countAgreeing 20 = .ok (.istore_n 3, 1) := by decide +kernel
theorem dX8_countAgreeing_21 : decode cX8_countAgreeing 21 = .ok (.iload_n 3, 1) := by decide +kernel
theorem dX8_countAgreeing_22 : decode cX8_countAgreeing 22 = .ok (.iconst (-1), 1) := by decide +kernel
theorem dX8_countAgreeing_23 : decode cX8_countAgreeing 23 = .ok (.if_icmp .eq 15, 3) := by decide +kernel
theorem dX8_countAgreeing_26 : decode cX8_countAgreeing 26 = .ok (.iload_n 3, 1) := by decide +kernel
theorem dX8_countAgreeing_27 : decode cX8_countAgreeing 27 = .ok (.aload_n 0, 1) := by decide +kernel
theorem dX8_countAgreeing_28 : decode cX8_countAgreeing 28 = .ok (.iload_n 2, 1) := by decide +kernel
theorem dX8_countAgreeing_29 : decode cX8_countAgreeing 29 = .ok (.invokevirtual 68, 3) := by decide +kernel
theorem dX8_countAgreeing_32 : decode cX8_countAgreeing 32 = .ok (.if_icmp .ne 6, 3) := by decide +kernel
theorem dX8_countAgreeing_35 : decode cX8_countAgreeing 35 = .ok (.iinc 1 1, 3) := by decide +kernel
theorem dX8_countAgreeing_38 : decode cX8_countAgreeing 38 = .ok (.iinc 2 1, 3) := by decide +kernel
theorem dX8_countAgreeing_41 : decode cX8_countAgreeing 41 = .ok (.goto (-37), 3) := by decide +kernel
theorem dX8_countAgreeing_44 : decode cX8_countAgreeing 44 = .ok (.iload_n 1, 1) := by decide +kernel
theorem dX8_countAgreeing_45 : decode cX8_countAgreeing 45 = .ok (.ireturn, 1) := by decide +kernel
theorem dX8_seamOfOld_0 : decode cX8_seamOfOld 0 = .ok (.iconst 0, 1) := by decide +kernel
theorem dX8_seamOfOld_1 : decode cX8_seamOfOld 1 = .ok (.istore_n 2, 1) := by decide +kernel
theorem dX8_seamOfOld_2 : decode cX8_seamOfOld 2 = .ok (.iconst 0, 1) := by decide +kernel
theorem dX8_seamOfOld_3 : decode cX8_seamOfOld 3 = .ok (.istore_n 3, 1) := by decide +kernel
theorem dX8_seamOfOld_4 : decode cX8_seamOfOld 4 = .ok (.iload_n 3, 1) := by decide +kernel
theorem dX8_seamOfOld_5 : decode cX8_seamOfOld 5 = .ok (.aload_n 0, 1) := by decide +kernel
theorem dX8_seamOfOld_6 : decode cX8_seamOfOld 6 = .ok (.getfield 20, 3) := by decide +kernel
theorem dX8_seamOfOld_9 : decode cX8_seamOfOld 9 = .ok (.getfield 71, 3) := by decide +kernel
theorem dX8_seamOfOld_12 : decode cX8_seamOfOld 12 = .ok (.if_icmp .ge 67, 3) := by decide +kernel
theorem dX8_seamOfOld_15 : decode cX8_seamOfOld 15 = .ok (.aload_n 0, 1) := by decide +kernel
theorem dX8_seamOfOld_16 : decode cX8_seamOfOld 16 = .ok (.iload_n 3, 1) := by decide +kernel
theorem dX8_seamOfOld_17 : decode cX8_seamOfOld 17 = .ok (.aload_n 0, 1) := by decide +kernel
theorem dX8_seamOfOld_18 : decode cX8_seamOfOld 18 = .ok (.getfield 20, 3) := by decide +kernel
theorem dX8_seamOfOld_21 : decode cX8_seamOfOld 21 = .ok (.getfield 74, 3) := by decide +kernel
theorem dX8_seamOfOld_24 : decode cX8_seamOfOld 24 = .ok (.imul, 1) := by decide +kernel
theorem dX8_seamOfOld_25 : decode cX8_seamOfOld 25 = .ok (.iload_n 1, 1) := by decide +kernel
theorem dX8_seamOfOld_26 : decode cX8_seamOfOld 26 = .ok (.iadd, 1) := by decide +kernel
theorem dX8_seamOfOld_27 : decode cX8_seamOfOld 27 = .ok (.invokevirtual 65, 3) := by decide +kernel
theorem dX8_seamOfOld_30 : decode cX8_seamOfOld 30 = .ok (.istore 4, 2) := by decide +kernel
theorem dX8_seamOfOld_32 : decode cX8_seamOfOld 32 = .ok (.aload_n 0, 1) := by decide +kernel
theorem dX8_seamOfOld_33 : decode cX8_seamOfOld 33 = .ok (.iload_n 3, 1) := by decide +kernel
theorem dX8_seamOfOld_34 : decode cX8_seamOfOld 34 = .ok (.aload_n 0, 1) := by decide +kernel
theorem dX8_seamOfOld_35 : decode cX8_seamOfOld 35 = .ok (.getfield 20, 3) := by decide +kernel
theorem dX8_seamOfOld_38 : decode cX8_seamOfOld 38 = .ok (.getfield 74, 3) := by decide +kernel
theorem dX8_seamOfOld_41 : decode cX8_seamOfOld 41 = .ok (.imul, 1) := by decide +kernel
theorem dX8_seamOfOld_42 : decode cX8_seamOfOld 42 = .ok (.iload_n 1, 1) := by decide +kernel
theorem dX8_seamOfOld_43 : decode cX8_seamOfOld 43 = .ok (.iadd, 1) := by decide +kernel
theorem dX8_seamOfOld_44 : decode cX8_seamOfOld 44 = .ok (.iconst 1, 1) := by decide +kernel
theorem dX8_seamOfOld_45 : decode cX8_seamOfOld 45 = .ok (.iadd, 1) := by decide +kernel
theorem dX8_seamOfOld_46 : decode cX8_seamOfOld 46 = .ok (.invokevirtual 65, 3) := by decide +kernel
theorem dX8_seamOfOld_49 : decode cX8_seamOfOld 49 = .ok (.istore 5, 2) := by decide +kernel
theorem dX8_seamOfOld_51 : decode cX8_seamOfOld 51 = .ok (.iload 4, 2) := by decide +kernel
theorem dX8_seamOfOld_53 : decode cX8_seamOfOld 53 = .ok (.iconst (-1), 1) := by decide +kernel
theorem dX8_seamOfOld_54 : decode cX8_seamOfOld 54 = .ok (.if_icmp .eq 19, 3) := by decide +kernel
theorem dX8_seamOfOld_57 : decode cX8_seamOfOld 57 = .ok (.iload 5, 2) := by decide +kernel
theorem dX8_seamOfOld_59 : decode cX8_seamOfOld 59 = .ok (.iconst (-1), 1) := by decide +kernel
theorem dX8_seamOfOld_60 : decode cX8_seamOfOld 60 = .ok (.if_icmp .eq 13, 3) := by decide +kernel
theorem dX8_seamOfOld_63 : decode cX8_seamOfOld 63 = .ok (.iload 4, 2) := by decide +kernel
theorem dX8_seamOfOld_65 : decode cX8_seamOfOld 65 = .ok (.iload 5, 2) := by decide +kernel
theorem dX8_seamOfOld_67 : decode cX8_seamOfOld 67 = .ok (.if_icmp .eq 6, 3) := by decide +kernel
theorem dX8_seamOfOld_70 : decode cX8_seamOfOld 70 = .ok (.iinc 2 1, 3) := by decide +kernel
theorem dX8_seamOfOld_73 : decode cX8_seamOfOld 73 = .ok (.iinc 3 1, 3) := by decide +kernel
theorem dX8_seamOfOld_76 : decode cX8_seamOfOld 76 = .ok (.goto (-72), 3) := by decide +kernel
theorem dX8_seamOfOld_79 : decode cX8_seamOfOld 79 = .ok (.iload_n 2, 1) := by decide +kernel
theorem dX8_seamOfOld_80 : decode cX8_seamOfOld 80 = .ok (.ireturn, 1) := by decide +kernel
theorem dX8_seamOfBest_0 : decode cX8_seamOfBest 0 = .ok (.iconst 0, 1) := by decide +kernel
theorem dX8_seamOfBest_1 : decode cX8_seamOfBest 1 = .ok (.istore_n 2, 1) := by decide +kernel
theorem dX8_seamOfBest_2 : decode cX8_seamOfBest 2 = .ok (.iconst 0, 1) := by decide +kernel
theorem dX8_seamOfBest_3 : decode cX8_seamOfBest 3 = .ok (.istore_n 3, 1) := by decide +kernel
theorem dX8_seamOfBest_4 : decode cX8_seamOfBest 4 = .ok (.iload_n 3, 1) := by decide +kernel
theorem dX8_seamOfBest_5 : decode cX8_seamOfBest 5 = .ok (.aload_n 0, 1) := by decide +kernel
theorem dX8_seamOfBest_6 : decode cX8_seamOfBest 6 = .ok (.getfield 20, 3) := by decide +kernel
theorem dX8_seamOfBest_9 : decode cX8_seamOfBest 9 = .ok (.getfield 71, 3) := by decide +kernel
theorem dX8_seamOfBest_12 : decode cX8_seamOfBest 12 = .ok (.if_icmp .ge 47, 3) := by decide +kernel
theorem dX8_seamOfBest_15 : decode cX8_seamOfBest 15 = .ok (.aload_n 0, 1) := by decide +kernel
theorem dX8_seamOfBest_16 : decode cX8_seamOfBest 16 = .ok (.iload_n 3, 1) := by decide +kernel
theorem dX8_seamOfBest_17 : decode cX8_seamOfBest 17 = .ok (.aload_n 0, 1) := by decide +kernel
theorem dX8_seamOfBest_18 : decode cX8_seamOfBest 18 = .ok (.getfield 20, 3) := by decide +kernel
theorem dX8_seamOfBest_21 : decode cX8_seamOfBest 21 = .ok (.getfield 74, 3) := by decide +kernel
theorem dX8_seamOfBest_24 : decode cX8_seamOfBest 24 = .ok (.imul, 1) := by decide +kernel
theorem dX8_seamOfBest_25 : decode cX8_seamOfBest 25 = .ok (.iload_n 1, 1) := by decide +kernel
theorem dX8_seamOfBest_26 : decode cX8_seamOfBest 26 = .ok (.iadd, 1) := by decide +kernel
theorem dX8_seamOfBest_27 : decode cX8_seamOfBest 27 = .ok (.invokevirtual 68, 3) := by decide +kernel
theorem dX8_seamOfBest_30 : decode cX8_seamOfBest 30 = .ok (.aload_n 0, 1) := by decide +kernel
theorem dX8_seamOfBest_31 : decode cX8_seamOfBest 31 = .ok (.iload_n 3, 1) := by decide +kernel
theorem dX8_seamOfBest_32 : decode cX8_seamOfBest 32 = .ok (.aload_n 0, 1) := by decide +kernel
theorem dX8_seamOfBest_33 : decode cX8_seamOfBest 33 = .ok (.getfield 20, 3) := by decide +kernel
theorem dX8_seamOfBest_36 : decode cX8_seamOfBest 36 = .ok (.getfield 74, 3) := by decide +kernel
theorem dX8_seamOfBest_39 : decode cX8_seamOfBest 39 = .ok (.imul, 1) := by decide +kernel
theorem dX8_seamOfBest_40 : decode cX8_seamOfBest 40 = .ok (.iload_n 1, 1) := by decide +kernel
theorem dX8_seamOfBest_41 : decode cX8_seamOfBest 41 = .ok (.iadd, 1) := by decide +kernel
theorem dX8_seamOfBest_42 : decode cX8_seamOfBest 42 = .ok (.iconst 1, 1) := by decide +kernel
theorem dX8_seamOfBest_43 : decode cX8_seamOfBest 43 = .ok (.iadd, 1) := by decide +kernel
theorem dX8_seamOfBest_44 : decode cX8_seamOfBest 44 = .ok (.invokevirtual 68, 3) := by decide +kernel
theorem dX8_seamOfBest_47 : decode cX8_seamOfBest 47 = .ok (.if_icmp .eq 6, 3) := by decide +kernel
theorem dX8_seamOfBest_50 : decode cX8_seamOfBest 50 = .ok (.iinc 2 1, 3) := by decide +kernel
theorem dX8_seamOfBest_53 : decode cX8_seamOfBest 53 = .ok (.iinc 3 1, 3) := by decide +kernel
theorem dX8_seamOfBest_56 : decode cX8_seamOfBest 56 = .ok (.goto (-52), 3) := by decide +kernel
theorem dX8_seamOfBest_59 : decode cX8_seamOfBest 59 = .ok (.iload_n 2, 1) := by decide +kernel
theorem dX8_seamOfBest_60 : decode cX8_seamOfBest 60 = .ok (.ireturn, 1) := by decide +kernel
theorem dX8_mostTold_0 : decode cX8_mostTold 0 = .ok (.iconst (-1), 1) := by decide +kernel
theorem dX8_mostTold_1 : decode cX8_mostTold 1 = .ok (.istore_n 2, 1) := by decide +kernel
theorem dX8_mostTold_2 : decode cX8_mostTold 2 = .ok (.iconst 0, 1) := by decide +kernel
theorem dX8_mostTold_3 : decode cX8_mostTold 3 = .ok (.istore_n 3, 1) := by decide +kernel
theorem dX8_mostTold_4 : decode cX8_mostTold 4 = .ok (.iload_n 3, 1) := by decide +kernel
theorem dX8_mostTold_5 : decode cX8_mostTold 5 = .ok (.bipush 8, 2) := by decide +kernel
theorem dX8_mostTold_7 : decode cX8_mostTold 7 = .ok (.if_icmp .ge 39, 3) := by decide +kernel
theorem dX8_mostTold_10 : decode cX8_mostTold 10 = .ok (.aload_n 0, 1) := by decide +kernel
theorem dX8_mostTold_11 : decode cX8_mostTold 11 = .ok (.getfield 11, 3) := by decide +kernel
theorem dX8_mostTold_14 : decode cX8_mostTold 14 = .ok (.iload_n 1, 1) := by decide +kernel
theorem dX8_mostTold_15 : decode cX8_mostTold 15 = .ok (.aaload, 1) := by decide +kernel
theorem dX8_mostTold_16 : decode cX8_mostTold 16 = .ok (.iload_n 3, 1) := by decide +kernel
theorem dX8_mostTold_17 : decode cX8_mostTold 17 = .ok (.iaload, 1) := by decide +kernel
theorem dX8_mostTold_18 : decode cX8_mostTold 18 = .ok (.iload_n 2, 1) := by decide +kernel
theorem dX8_mostTold_19 : decode cX8_mostTold 19 = .ok (.iconst (-1), 1) := by decide +kernel
theorem dX8_mostTold_20 : decode cX8_mostTold 20 = .ok (.if_icmp .ne 7, 3) := by decide +kernel
theorem dX8_mostTold_23 : decode cX8_mostTold 23 = .ok (.iconst 0, 1) := by decide +kernel
theorem dX8_mostTold_24 : decode cX8_mostTold 24 = .ok (.goto 11, 3) := by decide +kernel
theorem dX8_mostTold_27 : decode cX8_mostTold 27 = .ok (.aload_n 0, 1) := by decide +kernel
theorem dX8_mostTold_28 : decode cX8_mostTold 28 = .ok (.getfield 11, 3) := by decide +kernel
theorem dX8_mostTold_31 : decode cX8_mostTold 31 = .ok (.iload_n 1, 1) := by decide +kernel
theorem dX8_mostTold_32 : decode cX8_mostTold 32 = .ok (.aaload, 1) := by decide +kernel
theorem dX8_mostTold_33 : decode cX8_mostTold 33 = .ok (.iload_n 2, 1) := by decide +kernel
theorem dX8_mostTold_34 : decode cX8_mostTold 34 = .ok (.iaload, 1) := by decide +kernel
theorem dX8_mostTold_35 : decode cX8_mostTold 35 = .ok (.if_icmp .le 5, 3) := by decide +kernel
theorem dX8_mostTold_38 : decode cX8_mostTold 38 = .ok (.iload_n 3, 1) := by decide +kernel
theorem dX8_mostTold_39 : decode cX8_mostTold 39 = .ok (.istore_n 2, 1) := by decide +kernel
theorem dX8_mostTold_40 : decode cX8_mostTold 40 = .ok (.iinc 3 1, 3) := by decide +kernel
theorem dX8_mostTold_43 : decode cX8_mostTold 43 = .ok (.goto (-39), 3) := by decide +kernel
theorem dX8_mostTold_46 : decode cX8_mostTold 46 = .ok (.iload_n 2, 1) := by decide +kernel
theorem dX8_mostTold_47 : decode cX8_mostTold 47 = .ok (.ireturn, 1) := by decide +kernel
theorem dX8_turnedAt_0 : decode cX8_turnedAt 0 = .ok (.aload_n 0, 1) := by decide +kernel
theorem dX8_turnedAt_1 : decode cX8_turnedAt 1 = .ok (.getfield 20, 3) := by decide +kernel
theorem dX8_turnedAt_4 : decode cX8_turnedAt 4 = .ok (.getfield 45, 3) := by decide +kernel
theorem dX8_turnedAt_7 : decode cX8_turnedAt 7 = .ok (.iconst 4, 1) := by decide +kernel
theorem dX8_turnedAt_8 : decode cX8_turnedAt 8 = .ok (.aaload, 1) := by decide +kernel
theorem dX8_turnedAt_9 : decode cX8_turnedAt 9 = .ok (.iload_n 1, 1) := by decide +kernel
theorem dX8_turnedAt_10 : decode cX8_turnedAt 10 = .ok (.iaload, 1) := by decide +kernel
theorem dX8_turnedAt_11 : decode cX8_turnedAt 11 = .ok (.istore_n 2, 1) := by decide +kernel
theorem dX8_turnedAt_12 : decode cX8_turnedAt 12 = .ok (.iload_n 2, 1) := by decide +kernel
theorem dX8_turnedAt_13 : decode cX8_turnedAt 13 = .ok (.iconst (-1), 1) := by decide +kernel
theorem dX8_turnedAt_14 : decode cX8_turnedAt 14 = .ok (.if_icmp .ne 7, 3) := by decide +kernel
theorem dX8_turnedAt_17 : decode cX8_turnedAt 17 = .ok (.iconst (-1), 1) := by decide +kernel
theorem dX8_turnedAt_18 : decode cX8_turnedAt 18 = .ok (.goto 9, 3) := by decide +kernel
theorem dX8_turnedAt_21 : decode cX8_turnedAt 21 = .ok (.aload_n 0, 1) := by decide +kernel
theorem dX8_turnedAt_22 : decode cX8_turnedAt 22 = .ok (.getfield 16, 3) := by decide +kernel
theorem dX8_turnedAt_25 : decode cX8_turnedAt 25 = .ok (.iload_n 2, 1) := by decide +kernel
theorem dX8_turnedAt_26 : decode cX8_turnedAt 26 = .ok (.iaload, 1) := by decide +kernel
theorem dX8_turnedAt_27 : decode cX8_turnedAt 27 = .ok (.ireturn, 1) := by decide +kernel
theorem dX8_bestAt_0 : decode cX8_bestAt 0 = .ok (.aload_n 0, 1) := by decide +kernel
theorem dX8_bestAt_1 : decode cX8_bestAt 1 = .ok (.getfield 28, 3) := by decide +kernel
theorem dX8_bestAt_4 : decode cX8_bestAt 4 = .ok (.iload_n 1, 1) := by decide +kernel
theorem dX8_bestAt_5 : decode cX8_bestAt 5 = .ok (.iconst (-1), 1) := by decide +kernel
theorem dX8_bestAt_6 : decode cX8_bestAt 6 = .ok (.invokevirtual 77, 3) := by decide +kernel
theorem dX8_bestAt_9 : decode cX8_bestAt 9 = .ok (.aload_n 0, 1) := by decide +kernel
theorem dX8_bestAt_10 : decode cX8_bestAt 10 = .ok (.getfield 28, 3) := by decide +kernel
theorem dX8_bestAt_13 : decode cX8_bestAt 13 = .ok (.getfield 83, 3) := by decide +kernel
theorem dX8_bestAt_16 : decode cX8_bestAt 16 = .ok (.ireturn, 1) := by decide +kernel
theorem dX9_init_0 : decode cX9_init 0 = .ok (.aload_n 0, 1) := by decide +kernel
theorem dX9_init_1 : decode cX9_init 1 = .ok (.invokespecial 3, 3) := by decide +kernel
theorem dX9_init_4 : decode cX9_init 4 = .ok (.aload_n 0, 1) := by decide +kernel
theorem dX9_init_5 : decode cX9_init 5 = .ok (.bipush 64, 2) := by decide +kernel
theorem dX9_init_7 : decode cX9_init 7 = .ok (.newarray .int, 2) := by decide +kernel
theorem dX9_init_9 : decode cX9_init 9 = .ok (.putfield 9, 3) := by decide +kernel
theorem dX9_init_12 : decode cX9_init 12 = .ok (.aload_n 0, 1) := by decide +kernel
theorem dX9_init_13 : decode cX9_init 13 = .ok (.iconst 3, 1) := by decide +kernel
theorem dX9_init_14 : decode cX9_init 14 = .ok (.newarray .int, 2) := by decide +kernel
theorem dX9_init_16 : decode cX9_init 16 = .ok (.putfield 15, 3) := by decide +kernel
theorem dX9_init_19 : decode cX9_init 19 = .ok (.aload_n 0, 1) := by decide +kernel
theorem dX9_init_20 : decode cX9_init 20 = .ok (.iconst 3, 1) := by decide +kernel
theorem dX9_init_21 : decode cX9_init 21 = .ok (.newarray .int, 2) := by decide +kernel
theorem dX9_init_23 : decode cX9_init 23 = .ok (.putfield 18, 3) := by decide +kernel
theorem dX9_init_26 : decode cX9_init 26 = .ok (.aload_n 0, 1) := by decide +kernel
theorem dX9_init_27 : decode cX9_init 27 = .ok (.iconst 3, 1) := by decide +kernel
theorem dX9_init_28 : decode cX9_init 28 = .ok (.newarray .int, 2) := by decide +kernel
theorem dX9_init_30 : decode cX9_init 30 = .ok (.putfield 21, 3) := by decide +kernel
theorem dX9_init_33 : decode cX9_init 33 = .ok (.aload_n 0, 1) := by decide +kernel
theorem dX9_init_34 : decode cX9_init 34 = .ok (.iconst (-1), 1) := by decide +kernel
theorem dX9_init_35 : decode cX9_init 35 = .ok (.putfield 24, 3) := by decide +kernel
theorem dX9_init_38 : decode cX9_init 38 = .ok (.aload_n 0, 1) := by decide +kernel
theorem dX9_init_39 : decode cX9_init 39 = .ok (.aload_n 1, 1) := by decide +kernel
theorem dX9_init_40 : decode cX9_init 40 = .ok (.putfield 28, 3) := by decide +kernel
theorem dX9_init_43 : decode cX9_init 43 = .ok (.return_, 1) := by decide +kernel
theorem dX9_weighGains_0 : decode cX9_weighGains 0 = .ok (.aload_n 0, 1) := by decide +kernel
theorem dX9_weighGains_1 : decode cX9_weighGains 1 = .ok (.iconst 0, 1) := by decide +kernel
theorem dX9_weighGains_2 : decode cX9_weighGains 2 = .ok (.putfield 32, 3) := by decide +kernel
theorem dX9_weighGains_5 : decode cX9_weighGains 5 = .ok (.iconst 0, 1) := by decide +kernel
theorem dX9_weighGains_6 : decode cX9_weighGains 6 = .ok (.istore_n 3, 1) := by decide +kernel
theorem dX9_weighGains_7 : decode cX9_weighGains 7 = .ok (.iload_n 3, 1) := by decide +kernel
theorem dX9_weighGains_8 : decode cX9_weighGains 8 = .ok (.aload_n 0, 1) := by decide +kernel
theorem dX9_weighGains_9 : decode cX9_weighGains 9 = .ok (.getfield 28, 3) := by decide +kernel
theorem dX9_weighGains_12 : decode cX9_weighGains 12 = .ok (.getfield 35, 3) := by decide +kernel
theorem dX9_weighGains_15 : decode cX9_weighGains 15 = .ok (.if_icmp .ge 37, 3) := by decide +kernel
theorem dX9_weighGains_18 : decode cX9_weighGains 18 = .ok (.aload_n 1, 1) := by decide +kernel
theorem dX9_weighGains_19 : decode cX9_weighGains 19 = .ok (.iload_n 3, 1) := by decide +kernel
theorem dX9_weighGains_20 : decode cX9_weighGains 20 = .ok (.iconst (-1), 1) := by decide +kernel
theorem dX9_weighGains_21 : decode cX9_weighGains 21 = .ok (.invokevirtual 39, 3) := by decide +kernel
theorem dX9_weighGains_24 : decode cX9_weighGains 24 = .ok (.aload_n 0, 1) := by decide +kernel
theorem dX9_weighGains_25 : decode cX9_weighGains 25 = .ok (.getfield 9, 3) := by decide +kernel
theorem dX9_weighGains_28 : decode cX9_weighGains 28 = .ok (.iload_n 3, 1) := by decide +kernel
theorem dX9_weighGains_29 : decode cX9_weighGains 29 = .ok (.aload_n 1, 1) := by decide +kernel
theorem dX9_weighGains_30 : decode cX9_weighGains 30 = .ok (.invokevirtual 45, 3) := by decide +kernel
theorem dX9_weighGains_33 : decode cX9_weighGains 33 = .ok (.aload_n 0, 1) := by decide +kernel
theorem dX9_weighGains_34 : decode cX9_weighGains 34 = .ok (.getfield 28, 3) := by decide +kernel
theorem dX9_weighGains_37 : decode cX9_weighGains 37 = .ok (.getfield 49, 3) := by decide +kernel
theorem dX9_weighGains_40 : decode cX9_weighGains 40 = .ok (.iconst 3, 1) := by decide +kernel
theorem dX9_weighGains_41 : decode cX9_weighGains 41 = .ok (.aaload, 1) := by decide +kernel
theorem dX9_weighGains_42 : decode cX9_weighGains 42 = .ok (.iload_n 3, 1) := by decide +kernel
theorem dX9_weighGains_43 : decode cX9_weighGains 43 = .ok (.iaload, 1) := by decide +kernel
theorem dX9_weighGains_44 : decode cX9_weighGains 44 = .ok (.imul, 1) := by decide +kernel
theorem dX9_weighGains_45 : decode cX9_weighGains 45 = .ok (.iastore, 1) := by decide +kernel
theorem dX9_weighGains_46 : decode cX9_weighGains 46 = .ok (.iinc 3 1, 3) := by decide +kernel
theorem dX9_weighGains_49 : decode cX9_weighGains 49 = .ok (.goto (-42), 3) := by decide +kernel
theorem dX9_weighGains_52 : decode cX9_weighGains 52 = .ok (.iconst 0, 1) := by decide +kernel
theorem dX9_weighGains_53 : decode cX9_weighGains 53 = .ok (.istore_n 3, 1) := by decide +kernel
theorem dX9_weighGains_54 : decode cX9_weighGains 54 = .ok (.iload_n 3, 1) := by decide +kernel
theorem dX9_weighGains_55 : decode cX9_weighGains 55 = .ok (.aload_n 2, 1) := by decide +kernel
theorem dX9_weighGains_56 : decode cX9_weighGains 56 = .ok (.getfield 53, 3) := by decide +kernel
theorem dX9_weighGains_59 : decode cX9_weighGains 59 = .ok (.if_icmp .ge 29, 3) := by decide +kernel
theorem dX9_weighGains_62 : decode cX9_weighGains 62 = .ok (.aload_n 0, 1) := by decide +kernel
theorem dX9_weighGains_63 : decode cX9_weighGains 63 = .ok (.getfield 9, 3) := by decide +kernel
theorem dX9_weighGains_66 : decode cX9_weighGains 66 = .ok (.aload_n 2, 1) := by decide +kernel
theorem dX9_weighGains_67 : decode cX9_weighGains 67 = .ok (.getfield 58, 3) := by decide +kernel
theorem dX9_weighGains_70 : decode cX9_weighGains 70 = .ok (.aload_n 2, 1) := by decide +kernel
theorem dX9_weighGains_71 : decode cX9_weighGains 71 = .ok (.getfield 62, 3) := by decide +kernel
theorem dX9_weighGains_74 : decode cX9_weighGains 74 = .ok (.iload_n 3, 1) := by decide +kernel
theorem dX9_weighGains_75 : decode cX9_weighGains 75 = .ok (.iaload, 1) := by decide +kernel
theorem dX9_weighGains_76 : decode cX9_weighGains 76 = .ok (.aaload, 1) := by decide +kernel
theorem dX9_weighGains_77 : decode cX9_weighGains 77 = .ok (.getfield 65, 3) := by decide +kernel
theorem dX9_weighGains_80 : decode cX9_weighGains 80 = .ok (.iconst (-1), 1) := by decide +kernel
theorem dX9_weighGains_81 : decode cX9_weighGains 81 = .ok (.iastore, 1) := by decide +kernel
theorem dX9_weighGains_82 : decode cX9_weighGains 82 = .ok (.iinc 3 1, 3) := by decide +kernel
theorem dX9_weighGains_85 : decode cX9_weighGains 85 = .ok (.goto (-31), 3) := by decide +kernel
theorem dX9_weighGains_88 : decode cX9_weighGains 88 = .ok (.iconst 0, 1) := by decide +kernel
theorem dX9_weighGains_89 : decode cX9_weighGains 89 = .ok (.istore_n 3, 1) := by decide +kernel
theorem dX9_weighGains_90 : decode cX9_weighGains 90 = .ok (.iload_n 3, 1) := by decide +kernel
theorem dX9_weighGains_91 : decode cX9_weighGains 91 = .ok (.aload_n 0, 1) := by decide +kernel
theorem dX9_weighGains_92 : decode cX9_weighGains 92 = .ok (.getfield 28, 3) := by decide +kernel
theorem dX9_weighGains_95 : decode cX9_weighGains 95 = .ok (.getfield 35, 3) := by decide +kernel
theorem dX9_weighGains_98 : decode cX9_weighGains 98 = .ok (.if_icmp .ge 26, 3) := by decide +kernel
theorem dX9_weighGains_101 : decode cX9_weighGains 101 = .ok (.aload_n 0, 1) := by decide +kernel
theorem dX9_weighGains_102 : decode cX9_weighGains 102 = .ok (.aload_n 0, 1) := by decide +kernel
theorem dX9_weighGains_103 : decode cX9_weighGains 103 = .ok (.getfield 32, 3) := by decide +kernel
theorem dX9_weighGains_106 : decode cX9_weighGains 106 = .ok (.aload_n 0, 1) := by decide +kernel
theorem dX9_weighGains_107 : decode cX9_weighGains 107 = .ok (.getfield 9, 3) := by decide +kernel
theorem dX9_weighGains_110 : decode cX9_weighGains 110 = .ok (.iload_n 3, 1) := by decide +kernel
theorem dX9_weighGains_111 : decode cX9_weighGains 111 = .ok (.iaload, 1) := by decide +kernel
theorem dX9_weighGains_112 : decode cX9_weighGains 112 = .ok (.invokestatic 70, 3) := by decide +kernel
theorem dX9_weighGains_115 : decode cX9_weighGains 115 = .ok (.putfield 32, 3) := by decide +kernel
theorem dX9_weighGains_118 : decode cX9_weighGains 118 = .ok (.iinc 3 1, 3) := by decide +kernel
theorem dX9_weighGains_121 : decode cX9_weighGains 121 = .ok (.goto (-31), 3) := by decide +kernel
theorem dX9_weighGains_124 : decode cX9_weighGains 124 = .ok (.return_, 1) := by decide +kernel
theorem dX9_findPlan_0 : decode cX9_findPlan 0 = .ok (.aload_n 0, 1) := by decide +kernel
theorem dX9_findPlan_1 : decode cX9_findPlan 1 = .ok (.iload_n 1, 1) := by decide +kernel
theorem dX9_findPlan_2 : decode cX9_findPlan 2 = .ok (.putfield 76, 3) := by decide +kernel
theorem dX9_findPlan_5 : decode cX9_findPlan 5 = .ok (.aload_n 0, 1) := by decide +kernel
theorem dX9_findPlan_6 : decode cX9_findPlan 6 = .ok (.iload_n 2, 1) := by decide +kernel
theorem dX9_findPlan_7 : decode cX9_findPlan 7 = .ok (.putfield 79, 3) := by decide +kernel
theorem dX9_findPlan_10 : decode cX9_findPlan 10 = .ok (.aload_n 0, 1) := by decide +kernel
theorem dX9_findPlan_11 : decode cX9_findPlan 11 = .ok (.iconst (-1), 1) := by decide +kernel
theorem dX9_findPlan_12 : decode cX9_findPlan 12 = .ok (.putfield 82, 3) := by decide +kernel
theorem dX9_findPlan_15 : decode cX9_findPlan 15 = .ok (.aload_n 0, 1) := by decide +kernel
theorem dX9_findPlan_16 : decode cX9_findPlan 16 = .ok (.iconst 0, 1) := by decide +kernel
theorem dX9_findPlan_17 : decode cX9_findPlan 17 = .ok (.putfield 85, 3) := by decide +kernel
theorem dX9_findPlan_20 : decode cX9_findPlan 20 = .ok (.aload_n 0, 1) := by decide +kernel
theorem dX9_findPlan_21 : decode cX9_findPlan 21 = .ok (.iconst 0, 1) := by decide +kernel
theorem dX9_findPlan_22 : decode cX9_findPlan 22 = .ok (.iload_n 3, 1) := by decide +kernel
theorem dX9_findPlan_23 : decode cX9_findPlan 23 = .ok (.iconst 0, 1) := by decide +kernel
theorem dX9_findPlan_24 : decode cX9_findPlan 24 = .ok (.iconst 0, 1) := by decide +kernel
theorem dX9_findPlan_25 : decode cX9_findPlan 25 = .ok (.invokevirtual 88, 3) := by decide +kernel
theorem dX9_findPlan_28 : decode cX9_findPlan 28 = .ok (.aload_n 0, 1) := by decide +kernel
theorem dX9_findPlan_29 : decode cX9_findPlan 29 = .ok (.getfield 82, 3) := by decide +kernel
theorem dX9_findPlan_32 : decode cX9_findPlan 32 = .ok (.iconst (-1), 1) := by decide +kernel
theorem dX9_findPlan_33 : decode cX9_findPlan 33 = .ok (.if_icmp .ne 5, 3) := by decide +kernel
theorem dX9_findPlan_36 : decode cX9_findPlan 36 = .ok (.iconst (-1), 1) := by decide +kernel
theorem dX9_findPlan_37 : decode cX9_findPlan 37 = .ok (.ireturn, 1) := by decide +kernel
theorem dX9_findPlan_38 : decode cX9_findPlan 38 = .ok (.aload_n 0, 1) := by decide +kernel
theorem dX9_findPlan_39 : decode cX9_findPlan 39 = .ok (.iload_n 1, 1) := by decide +kernel
theorem dX9_findPlan_40 : decode cX9_findPlan 40 = .ok (.putfield 92, 3) := by decide +kernel
theorem dX9_findPlan_43 : decode cX9_findPlan 43 = .ok (.aload_n 0, 1) := by decide +kernel
theorem dX9_findPlan_44 : decode cX9_findPlan 44 = .ok (.aload_n 0, 1) := by decide +kernel
theorem dX9_findPlan_45 : decode cX9_findPlan 45 = .ok (.getfield 85, 3) := by decide +kernel
theorem dX9_findPlan_48 : decode cX9_findPlan 48 = .ok (.putfield 24, 3) := by decide +kernel
theorem dX9_findPlan_51 : decode cX9_findPlan 51 = .ok (.iconst 0, 1) := by decide +kernel
theorem dX9_findPlan_52 : decode cX9_findPlan 52 = .ok (.istore 4, 2) := by decide +kernel
theorem dX9_findPlan_54 : decode cX9_findPlan 54 = .ok (.iload 4, 2) := by decide +kernel
theorem dX9_findPlan_56 : decode cX9_findPlan 56 = .ok (.iload_n 1, 1) := by decide +kernel
theorem dX9_findPlan_57 : decode cX9_findPlan 57 = .ok (.if_icmp .ge 23, 3) := by decide +kernel
theorem dX9_findPlan_60 : decode cX9_findPlan 60 = .ok (.aload_n 0, 1) := by decide +kernel
theorem dX9_findPlan_61 : decode cX9_findPlan 61 = .ok (.getfield 21, 3) := by decide +kernel
theorem dX9_findPlan_64 : decode cX9_findPlan 64 = .ok (.iload 4, 2) := by decide +kernel
theorem dX9_findPlan_66 : decode cX9_findPlan 66 = .ok (.aload_n 0, 1) := by decide +kernel
theorem dX9_findPlan_67 : decode cX9_findPlan 67 = .ok (.getfield 18, 3) := by decide +kernel
theorem dX9_findPlan_70 : decode cX9_findPlan 70 = .ok (.iload 4, 2) := by decide +kernel
theorem dX9_findPlan_72 : decode cX9_findPlan 72 = .ok (.iaload, 1) := by decide +kernel
theorem dX9_findPlan_73 : decode cX9_findPlan 73 = .ok (.iastore, 1) := by decide +kernel
theorem dX9_findPlan_74 : decode cX9_findPlan 74 = .ok (.iinc 4 1, 3) := by decide +kernel
theorem dX9_findPlan_77 : decode cX9_findPlan 77 = .ok (.goto (-23), 3) := by decide +kernel
theorem dX9_findPlan_80 : decode cX9_findPlan 80 = .ok (.aload_n 0, 1) := by decide +kernel
theorem dX9_findPlan_81 : decode cX9_findPlan 81 = .ok (.getfield 82, 3) := by decide +kernel
theorem dX9_findPlan_84 : decode cX9_findPlan 84 = .ok (.ireturn, 1) := by decide +kernel
theorem dX9_search_0 : decode cX9_search 0 = .ok (.iload_n 1, 1) := by decide +kernel
theorem dX9_search_1 : decode cX9_search 1 = .ok (.aload_n 0, 1) := by decide +kernel
theorem dX9_search_2 : decode cX9_search 2 = .ok (.getfield 76, 3) := by decide +kernel
theorem dX9_search_5 : decode cX9_search 5 = .ok (.if_icmp .ge 8, 3) := by decide +kernel
theorem dX9_search_8 : decode cX9_search 8 = .ok (.iload_n 1, 1) := by decide +kernel
theorem dX9_search_9 : decode cX9_search 9 = .ok (.iconst 3, 1) := by decide +kernel
theorem dX9_search_10 : decode cX9_search 10 = .ok (.if_icmp .lt 11, 3) := by decide +kernel
theorem dX9_search_13 : decode cX9_search 13 = .ok (.aload_n 0, 1) := by decide +kernel
theorem dX9_search_14 : decode cX9_search 14 = .ok (.iload 4, 2) := by decide +kernel
theorem dX9_search_16 : decode cX9_search 16 = .ok (.iload_n 3, 1) := by decide +kernel
theorem dX9_search_17 : decode cX9_search 17 = .ok (.invokevirtual 95, 3) := by decide +kernel
theorem dX9_search_20 : decode cX9_search 20 = .ok (.return_, 1) := by decide +kernel
theorem dX9_search_21 : decode cX9_search 21 = .ok (.iconst 0, 1) := by decide +kernel
theorem dX9_search_22 : decode cX9_search 22 = .ok (.istore 5, 2) := by decide +kernel
theorem dX9_search_24 : decode cX9_search 24 = .ok (.iload 5, 2) := by decide +kernel
theorem dX9_search_26 : decode cX9_search 26 = .ok (.aload_n 0, 1) := by decide +kernel
theorem dX9_search_27 : decode cX9_search 27 = .ok (.getfield 28, 3) := by decide +kernel
theorem dX9_search_30 : decode cX9_search 30 = .ok (.getfield 35, 3) := by decide +kernel
theorem dX9_search_33 : decode cX9_search 33 = .ok (.if_icmp .ge 20, 3) := by decide +kernel
theorem dX9_search_36 : decode cX9_search 36 = .ok (.aload_n 0, 1) := by decide +kernel
theorem dX9_search_37 : decode cX9_search 37 = .ok (.iload_n 1, 1) := by decide +kernel
theorem dX9_search_38 : decode cX9_search 38 = .ok (.iload_n 2, 1) := by decide +kernel
theorem dX9_search_39 : decode cX9_search 39 = .ok (.iload 5, 2) := by decide +kernel
theorem dX9_search_41 : decode cX9_search 41 = .ok (.iload_n 3, 1) := by decide +kernel
theorem dX9_search_42 : decode cX9_search 42 = .ok (.iload 4, 2) := by decide +kernel
theorem dX9_search_44 : decode cX9_search 44 = .ok (.invokevirtual 98, 3) := by decide +kernel
theorem dX9_search_47 : decode cX9_search 47 = .ok (.iinc 5 1, 3) := by decide +kernel
theorem dX9_search_50 : decode cX9_search 50 = .ok (.goto (-26), 3) := by decide +kernel
theorem dX9_search_53 : decode cX9_search 53 = .ok (.return_, 1) := by decide +kernel
theorem dX9_tryCell_0 : decode cX9_tryCell 0 = .ok (.aload_n 0, 1) := by decide +kernel
theorem dX9_tryCell_1 : decode cX9_tryCell 1 = .ok (.getfield 76, 3) := by decide +kernel
theorem dX9_tryCell_4 : decode cX9_tryCell 4 = .ok (.iload_n 1, 1) := by decide +kernel
theorem dX9_tryCell_5 : decode cX9_tryCell 5 = .ok (.isub, 1) := by decide +kernel
theorem dX9_tryCell_6 : decode cX9_tryCell 6 = .ok (.iconst 1, 1) := by decide +kernel
theorem dX9_tryCell_7 : decode cX9_tryCell 7 = .ok (.isub, 1) := by decide +kernel
theorem dX9_tryCell_8 : decode cX9_tryCell 8 = .ok (.istore 6, 2) := by decide +kernel
theorem dX9_tryCell_10 : decode cX9_tryCell 10 = .ok (.iload 5, 2) := by decide +kernel
theorem dX9_tryCell_12 : decode cX9_tryCell 12 = .ok (.aload_n 0, 1) := by decide +kernel
theorem dX9_tryCell_13 : decode cX9_tryCell 13 = .ok (.getfield 9, 3) := by decide +kernel
theorem dX9_tryCell_16 : decode cX9_tryCell 16 = .ok (.iload_n 3, 1) := by decide +kernel
theorem dX9_tryCell_17 : decode cX9_tryCell 17 = .ok (.iaload, 1) := by decide +kernel
theorem dX9_tryCell_18 : decode cX9_tryCell 18 = .ok (.iadd, 1) := by decide +kernel
theorem dX9_tryCell_19 : decode cX9_tryCell 19 = .ok (.iload 6, 2) := by decide +kernel
theorem dX9_tryCell_21 : decode cX9_tryCell 21 = .ok (.aload_n 0, 1) := by decide +kernel
theorem dX9_tryCell_22 : decode cX9_tryCell 22 = .ok (.getfield 32, 3) := by decide +kernel
theorem dX9_tryCell_25 : decode cX9_tryCell 25 = .ok (.imul, 1) := by decide +kernel
theorem dX9_tryCell_26 : decode cX9_tryCell 26 = .ok (.iadd, 1) := by decide +kernel
theorem dX9_tryCell_27 : decode cX9_tryCell 27 = .ok (.istore 7, 2) := by decide +kernel
theorem dX9_tryCell_29 : decode cX9_tryCell 29 = .ok (.aload_n 0, 1) := by decide +kernel
theorem dX9_tryCell_30 : decode cX9_tryCell 30 = .ok (.getfield 9, 3) := by decide +kernel
theorem dX9_tryCell_33 : decode cX9_tryCell 33 = .ok (.iload_n 3, 1) := by decide +kernel
theorem dX9_tryCell_34 : decode cX9_tryCell 34 = .ok (.iaload, 1) := by decide +kernel
theorem dX9_tryCell_35 : decode cX9_tryCell 35 = .ok (.iconst (-1), 1) := by decide +kernel
theorem dX9_tryCell_36 : decode cX9_tryCell 36 = .ok (.if_icmp .eq 12, 3) := by decide +kernel
theorem dX9_tryCell_39 : decode cX9_tryCell 39 = .ok (.iload 7, 2) := by decide +kernel
theorem dX9_tryCell_41 : decode cX9_tryCell 41 = .ok (.aload_n 0, 1) := by decide +kernel
theorem dX9_tryCell_42 : decode cX9_tryCell 42 = .ok (.getfield 82, 3) := by decide +kernel
theorem dX9_tryCell_45 : decode cX9_tryCell 45 = .ok (.if_icmp .ge 4, 3) := by decide +kernel
theorem dX9_tryCell_48 : decode cX9_tryCell 48 = .ok (.return_, 1) := by decide +kernel
theorem dX9_tryCell_49 : decode cX9_tryCell 49 = .ok (.iload 4, 2) := by decide +kernel
theorem dX9_tryCell_51 : decode cX9_tryCell 51 = .ok (.aload_n 0, 1) := by decide +kernel
theorem dX9_tryCell_52 : decode cX9_tryCell 52 = .ok (.getfield 28, 3) := by decide +kernel
theorem dX9_tryCell_55 : decode cX9_tryCell 55 = .ok (.iload_n 2, 1) := by decide +kernel
theorem dX9_tryCell_56 : decode cX9_tryCell 56 = .ok (.iload_n 3, 1) := by decide +kernel
theorem dX9_tryCell_57 : decode cX9_tryCell 57 = .ok (.invokevirtual 102, 3) := by decide +kernel
theorem dX9_tryCell_60 : decode cX9_tryCell 60 = .ok (.iadd, 1) := by decide +kernel
theorem dX9_tryCell_61 : decode cX9_tryCell 61 = .ok (.iconst 1, 1) := by decide +kernel
theorem dX9_tryCell_62 : decode cX9_tryCell 62 = .ok (.iadd, 1) := by decide +kernel
theorem dX9_tryCell_63 : decode cX9_tryCell 63 = .ok (.istore 8, 2) := by decide +kernel
theorem dX9_tryCell_65 : decode cX9_tryCell 65 = .ok (.iload 8, 2) := by decide +kernel
theorem dX9_tryCell_67 : decode cX9_tryCell 67 = .ok (.iload 6, 2) := by decide +kernel
theorem dX9_tryCell_69 : decode cX9_tryCell 69 = .ok (.iconst 3, 1) := by decide +kernel
theorem dX9_tryCell_70 : decode cX9_tryCell 70 = .ok (.imul, 1) := by decide +kernel
theorem dX9_tryCell_71 : decode cX9_tryCell 71 = .ok (.iadd, 1) := by decide +kernel
theorem dX9_tryCell_72 : decode cX9_tryCell 72 = .ok (.istore 9, 2) := by decide +kernel
theorem dX9_tryCell_74 : decode cX9_tryCell 74 = .ok (.iload 9, 2) := by decide +kernel
theorem dX9_tryCell_76 : decode cX9_tryCell 76 = .ok (.aload_n 0, 1) := by decide +kernel
theorem dX9_tryCell_77 : decode cX9_tryCell 77 = .ok (.getfield 79, 3) := by decide +kernel
theorem dX9_tryCell_80 : decode cX9_tryCell 80 = .ok (.if_icmp .gt 49, 3) := by decide +kernel
theorem dX9_tryCell_83 : decode cX9_tryCell 83 = .ok (.aload_n 0, 1) := by decide +kernel
theorem dX9_tryCell_84 : decode cX9_tryCell 84 = .ok (.iload 7, 2) := by decide +kernel
theorem dX9_tryCell_86 : decode cX9_tryCell 86 = .ok (.iload 9, 2) := by decide +kernel
theorem dX9_tryCell_88 : decode cX9_tryCell 88 = .ok (.invokevirtual 105, 3) := by decide +kernel
theorem dX9_tryCell_91 : decode cX9_tryCell 91 = .ok (.ifCond .eq 38, 3) := by decide +kernel
theorem dX9_tryCell_94 : decode cX9_tryCell 94 = .ok (.aload_n 0, 1) := by decide +kernel
theorem dX9_tryCell_95 : decode cX9_tryCell 95 = .ok (.iload_n 1, 1) := by decide +kernel
theorem dX9_tryCell_96 : decode cX9_tryCell 96 = .ok (.iload_n 3, 1) := by decide +kernel
theorem dX9_tryCell_97 : decode cX9_tryCell 97 = .ok (.invokevirtual 109, 3) := by decide +kernel
theorem dX9_tryCell_100 : decode cX9_tryCell 100 = .ok (.ifCond .eq 29, 3) := by decide +kernel
theorem dX9_tryCell_103 : decode cX9_tryCell 103 = .ok (.aload_n 0, 1) := by decide +kernel
theorem dX9_tryCell_104 : decode cX9_tryCell 104 = .ok (.getfield 15, 3) := by decide +kernel
theorem dX9_tryCell_107 : decode cX9_tryCell 107 = .ok (.iload_n 1, 1) := by decide +kernel
theorem dX9_tryCell_108 : decode cX9_tryCell 108 = .ok (.iload_n 3, 1) := by decide +kernel
theorem dX9_tryCell_109 : decode cX9_tryCell 109 = .ok (.iastore, 1) := by decide +kernel
theorem dX9_tryCell_110 : decode cX9_tryCell 110 = .ok (.aload_n 0, 1) := by decide +kernel
theorem dX9_tryCell_111 : decode cX9_tryCell 111 = .ok (.iload_n 1, 1) := by decide +kernel
theorem dX9_tryCell_112 : decode cX9_tryCell 112 = .ok (.iconst 1, 1) := by decide +kernel
theorem dX9_tryCell_113 : decode cX9_tryCell 113 = .ok (.iadd, 1) := by decide +kernel
theorem dX9_tryCell_114 : decode cX9_tryCell 114 = .ok (.iload_n 3, 1) := by decide +kernel
theorem dX9_tryCell_115 : decode cX9_tryCell 115 = .ok (.iload 8, 2) := by decide +kernel
theorem dX9_tryCell_117 : decode cX9_tryCell 117 = .ok (.iload 5, 2) := by decide +kernel
theorem dX9_tryCell_119 : decode cX9_tryCell 119 = .ok (.aload_n 0, 1) := by decide +kernel
theorem dX9_tryCell_120 : decode cX9_tryCell 120 = .ok (.getfield 9, 3) := by decide +kernel
theorem dX9_tryCell_123 : decode cX9_tryCell 123 = .ok (.iload_n 3, 1) := by decide +kernel
theorem dX9_tryCell_124 : decode cX9_tryCell 124 = .ok (.iaload, 1) := by decide +kernel
theorem dX9_tryCell_125 : decode cX9_tryCell 125 = .ok (.iadd, 1) := by decide +kernel
theorem dX9_tryCell_126 : decode cX9_tryCell 126 = .ok (.invokevirtual 88, 3) := by decide +kernel
theorem dX9_tryCell_129 : decode cX9_tryCell 129 = .ok (.return_, 1) := by decide +kernel
theorem dX9_isBetter_0 : decode cX9_isBetter 0 = .ok (.iload_n 1, 1) := by decide +kernel
theorem dX9_isBetter_1 : decode cX9_isBetter 1 = .ok (.aload_n 0, 1) := by decide +kernel
theorem dX9_isBetter_2 : decode cX9_isBetter 2 = .ok (.getfield 82, 3) := by decide +kernel
theorem dX9_isBetter_5 : decode cX9_isBetter 5 = .ok (.if_icmp .gt 19, 3) := by decide +kernel
theorem dX9_isBetter_8 : decode cX9_isBetter 8 = .ok (.iload_n 1, 1) := by decide +kernel
theorem dX9_isBetter_9 : decode cX9_isBetter 9 = .ok (.aload_n 0, 1) := by decide +kernel
theorem dX9_isBetter_10 : decode cX9_isBetter 10 = .ok (.getfield 82, 3) := by decide +kernel
theorem dX9_isBetter_13 : decode cX9_isBetter 13 = .ok (.if_icmp .ne 15, 3) := by decide +kernel
theorem dX9_isBetter_16 : decode cX9_isBetter 16 = .ok (.iload_n 2, 1) := by decide +kernel
theorem dX9_isBetter_17 : decode cX9_isBetter 17 = .ok (.aload_n 0, 1) := by decide +kernel
theorem dX9_isBetter_18 : decode cX9_isBetter 18 = .ok (.getfield 85, 3) := by decide +kernel
theorem dX9_isBetter_21 : decode cX9_isBetter 21 = .ok (.if_icmp .ge 7, 3) := by decide +kernel
theorem dX9_isBetter_24 : decode cX9_isBetter 24 = .ok (.iconst 1, 1) := by decide +kernel
theorem dX9_isBetter_25 : decode cX9_isBetter 25 = .ok (.goto 4, 3) := by decide +kernel
theorem dX9_isBetter_28 : decode cX9_isBetter 28 = .ok (.iconst 0, 1) := by decide +kernel
theorem dX9_isBetter_29 : decode cX9_isBetter 29 = .ok (.ireturn, 1) := by decide +kernel
theorem dX9_isApart_0 : decode cX9_isApart 0 = .ok (.iconst 0, 1) := by decide +kernel
theorem dX9_isApart_1 : decode cX9_isApart 1 = .ok (.istore_n 3, 1) := by decide +kernel
theorem dX9_isApart_2 : decode cX9_isApart 2 = .ok (.iload_n 3, 1) := by decide +kernel
theorem dX9_isApart_3 : decode cX9_isApart 3 = .ok (.iload_n 1, 1) := by decide +kernel
theorem dX9_isApart_4 : decode cX9_isApart 4 = .ok (.if_icmp .ge 29, 3) := by decide +kernel
theorem dX9_isApart_7 : decode cX9_isApart 7 = .ok (.aload_n 0, 1) := by decide +kernel
theorem dX9_isApart_8 : decode cX9_isApart 8 = .ok (.getfield 28, 3) := by decide +kernel
theorem dX9_isApart_11 : decode cX9_isApart 11 = .ok (.aload_n 0, 1) := by decide +kernel
theorem dX9_isApart_12 : decode cX9_isApart 12 = .ok (.getfield 15, 3) := by decide +kernel
theorem dX9_isApart_15 : decode cX9_isApart 15 = .ok (.iload_n 3, 1) := by decide +kernel
theorem dX9_isApart_16 : decode cX9_isApart 16 = .ok (.iaload, 1) := by decide +kernel
theorem dX9_isApart_17 : decode cX9_isApart 17 = .ok (.iload_n 2, 1) := by decide +kernel
theorem dX9_isApart_18 : decode cX9_isApart 18 = .ok (.invokevirtual 112, 3) := by decide +kernel
theorem dX9_isApart_21 : decode cX9_isApart 21 = .ok (.iconst 2, 1) := by decide +kernel
theorem dX9_isApart_22 : decode cX9_isApart 22 = .ok (.if_icmp .ge 5, 3) := by decide +kernel
theorem dX9_isApart_25 : decode cX9_isApart 25 = .ok (.iconst 0, 1) := by decide +kernel
theorem dX9_isApart_26 : decode cX9_isApart 26 = .ok (.ireturn, 1) := by decide +kernel
theorem dX9_isApart_27 : decode cX9_isApart 27 = .ok (.iinc 3 1, 3) := by decide +kernel
theorem dX9_isApart_30 : decode cX9_isApart 30 = .ok (.goto (-28), 3) := by decide +kernel
theorem dX9_isApart_33 : decode cX9_isApart 33 = .ok (.iconst 1, 1) := by decide +kernel
theorem dX9_isApart_34 : decode cX9_isApart 34 = .ok (.ireturn, 1) := by decide +kernel
theorem dX9_keepFound_0 : decode cX9_keepFound 0 = .ok (.aload_n 0, 1) := by decide +kernel
theorem dX9_keepFound_1 : decode cX9_keepFound 1 = .ok (.iload_n 1, 1) := by decide +kernel
theorem dX9_keepFound_2 : decode cX9_keepFound 2 = .ok (.putfield 82, 3) := by decide +kernel
theorem dX9_keepFound_5 : decode cX9_keepFound 5 = .ok (.aload_n 0, 1) := by decide +kernel
theorem dX9_keepFound_6 : decode cX9_keepFound 6 = .ok (.iload_n 2, 1) := by decide +kernel
theorem dX9_keepFound_7 : decode cX9_keepFound 7 = .ok (.putfield 85, 3) := by decide +kernel
theorem dX9_keepFound_10 : decode cX9_keepFound 10 = .ok (.iconst 0, 1) := by decide +kernel
theorem dX9_keepFound_11 : decode cX9_keepFound 11 = .ok (.istore_n 3, 1) := by decide +kernel
theorem dX9_keepFound_12 : decode cX9_keepFound 12 = .ok (.iload_n 3, 1) := by decide +kernel
theorem dX9_keepFound_13 : decode cX9_keepFound 13 = .ok (.aload_n 0, 1) := by decide +kernel
theorem dX9_keepFound_14 : decode cX9_keepFound 14 = .ok (.getfield 76, 3) := by decide +kernel
theorem dX9_keepFound_17 : decode cX9_keepFound 17 = .ok (.if_icmp .ge 26, 3) := by decide +kernel
theorem dX9_keepFound_20 : decode cX9_keepFound 20 = .ok (.iload_n 3, 1) := by decide +kernel
theorem dX9_keepFound_21 : decode cX9_keepFound 21 = .ok (.iconst 3, 1) := by decide +kernel
theorem dX9_keepFound_22 : decode cX9_keepFound 22 = .ok (.if_icmp .ge 21, 3) := by decide +kernel
theorem dX9_keepFound_25 : decode cX9_keepFound 25 = .ok (.aload_n 0, 1) := by decide +kernel
theorem dX9_keepFound_26 : decode cX9_keepFound 26 = .ok (.getfield 18, 3) := by decide +kernel
theorem dX9_keepFound_29 : decode cX9_keepFound 29 = .ok (.iload_n 3, 1) := by decide +kernel
theorem dX9_keepFound_30 : decode cX9_keepFound 30 = .ok (.aload_n 0, 1) := by decide +kernel
theorem dX9_keepFound_31 : decode cX9_keepFound 31 = .ok (.getfield 15, 3) := by decide +kernel
theorem dX9_keepFound_34 : decode cX9_keepFound 34 = .ok (.iload_n 3, 1) := by decide +kernel
theorem dX9_keepFound_35 : decode cX9_keepFound 35 = .ok (.iaload, 1) := by decide +kernel
theorem dX9_keepFound_36 : decode cX9_keepFound 36 = .ok (.iastore, 1) := by decide +kernel
theorem dX9_keepFound_37 : decode cX9_keepFound 37 = .ok (.iinc 3 1, 3) := by decide +kernel
theorem dX9_keepFound_40 : decode cX9_keepFound 40 = .ok (.goto (-28), 3) := by decide +kernel
theorem dX9_keepFound_43 : decode cX9_keepFound 43 = .ok (.return_, 1) := by decide +kernel
theorem dX10_init_0 : decode cX10_init 0 = .ok (.aload_n 0, 1) := by decide +kernel
theorem dX10_init_1 : decode cX10_init 1 = .ok (.invokespecial 3, 3) := by decide +kernel
theorem dX10_init_4 : decode cX10_init 4 = .ok (.aload_n 0, 1) := by decide +kernel
theorem dX10_init_5 : decode cX10_init 5 = .ok (.bipush 24, 2) := by decide +kernel
theorem dX10_init_7 : decode cX10_init 7 = .ok (.newarray .long, 2) := by decide +kernel
theorem dX10_init_9 : decode cX10_init 9 = .ok (.putfield 9, 3) := by decide +kernel
theorem dX10_init_12 : decode cX10_init 12 = .ok (.aload_n 0, 1) := by decide +kernel
theorem dX10_init_13 : decode cX10_init 13 = .ok (.iconst (-1), 1) := by decide +kernel
theorem dX10_init_14 : decode cX10_init 14 = .ok (.putfield 15, 3) := by decide +kernel
theorem dX10_init_17 : decode cX10_init 17 = .ok (.aload_n 0, 1) := by decide +kernel
theorem dX10_init_18 : decode cX10_init 18 = .ok (.aload_n 1, 1) := by decide +kernel
theorem dX10_init_19 : decode cX10_init 19 = .ok (.putfield 19, 3) := by decide +kernel
theorem dX10_init_22 : decode cX10_init 22 = .ok (.iconst 0, 1) := by decide +kernel
theorem dX10_init_23 : decode cX10_init 23 = .ok (.istore_n 2, 1) := by decide +kernel
theorem dX10_init_24 : decode cX10_init 24 = .ok (.iconst 0, 1) := by decide +kernel
theorem dX10_init_25 : decode cX10_init 25 = .ok (.istore_n 3, 1) := by decide +kernel
theorem dX10_init_26 : decode cX10_init 26 = .ok (.iload_n 3, 1) := by decide +kernel
theorem dX10_init_27 : decode cX10_init 27 = .ok (.ldc 23, 2) := by decide +kernel
theorem dX10_init_29 : decode cX10_init 29 = .ok (.invokevirtual 25, 3) := by decide +kernel
theorem dX10_init_32 : decode cX10_init 32 = .ok (.if_icmp .ge 53, 3) := by decide +kernel
theorem dX10_init_35 : decode cX10_init 35 = .ok (.iload_n 2, 1) := by decide +kernel
theorem dX10_init_36 : decode cX10_init 36 = .ok (.bipush 24, 2) := by decide +kernel
theorem dX10_init_38 : decode cX10_init 38 = .ok (.if_icmp .ge 47, 3) := by decide +kernel
theorem dX10_init_41 : decode cX10_init 41 = .ok (.ldc 23, 2) := by decide +kernel
theorem dX10_init_43 : decode cX10_init 43 = .ok (.iload_n 3, 1) := by decide +kernel
theorem dX10_init_44 : decode cX10_init 44 = .ok (.invokevirtual 31, 3) := by decide +kernel
theorem dX10_init_47 : decode cX10_init 47 = .ok (.istore 4, 2) := by decide +kernel
theorem dX10_init_49 : decode cX10_init 49 = .ok (.iload 4, 2) := by decide +kernel
theorem dX10_init_51 : decode cX10_init 51 = .ok (.bipush 32, 2) := by decide +kernel
theorem dX10_init_53 : decode cX10_init 53 = .ok (.if_icmp .ne 9, 3) := by decide +kernel
theorem dX10_init_56 : decode cX10_init 56 = .ok (.iinc 2 1, 3) := by decide +kernel
theorem dX10_init_59 : decode cX10_init 59 = .ok (.goto 20, 3) := by decide +kernel
theorem dX10_init_62 : decode cX10_init 62 = .ok (.aload_n 0, 1) := by decide +kernel
theorem dX10_init_63 : decode cX10_init 63 = .ok (.getfield 9, 3) := by decide +kernel
theorem dX10_init_66 : decode cX10_init 66 = .ok (.iload_n 2, 1) := by decide +kernel
theorem dX10_init_67 : decode cX10_init 67 = .ok (.aload_n 0, 1) := by decide +kernel
theorem dX10_init_68 : decode cX10_init 68 = .ok (.getfield 9, 3) := by decide +kernel
theorem dX10_init_71 : decode cX10_init 71 = .ok (.iload_n 2, 1) := by decide +kernel
theorem dX10_init_72 : decode cX10_init 72 = .ok (.laload, 1) := by decide +kernel
theorem dX10_init_73 : decode cX10_init 73 = .ok (.iload 4, 2) := by decide +kernel
theorem dX10_init_75 : decode cX10_init 75 = .ok (.invokestatic 35, 3) := by decide +kernel
theorem dX10_init_78 : decode cX10_init 78 = .ok (.lastore, 1) := by decide +kernel
theorem dX10_init_79 : decode cX10_init 79 = .ok (.iinc 3 1, 3) := by decide +kernel
theorem dX10_init_82 : decode cX10_init 82 = .ok (.goto (-56), 3) := by decide +kernel
theorem dX10_init_85 : decode cX10_init 85 = .ok (.return_, 1) := by decide +kernel
theorem dX10_start_0 : decode cX10_start 0 = .ok (.aload_n 0, 1) := by decide +kernel
theorem dX10_start_1 : decode cX10_start 1 = .ok (.iload_n 1, 1) := by decide +kernel
theorem dX10_start_2 : decode cX10_start 2 = .ok (.aload_n 0, 1) := by decide +kernel
theorem dX10_start_3 : decode cX10_start 3 = .ok (.getfield 19, 3) := by decide +kernel
theorem dX10_start_6 : decode cX10_start 6 = .ok (.arraylength, 1) := by decide +kernel
theorem dX10_start_7 : decode cX10_start 7 = .ok (.invokestatic 39, 3) := by decide +kernel
theorem dX10_start_10 : decode cX10_start 10 = .ok (.putfield 45, 3) := by decide +kernel
theorem dX10_start_13 : decode cX10_start 13 = .ok (.aload_n 0, 1) := by decide +kernel
theorem dX10_start_14 : decode cX10_start 14 = .ok (.iconst 0, 1) := by decide +kernel
theorem dX10_start_15 : decode cX10_start 15 = .ok (.putfield 47, 3) := by decide +kernel
theorem dX10_start_18 : decode cX10_start 18 = .ok (.aload_n 0, 1) := by decide +kernel
theorem dX10_start_19 : decode cX10_start 19 = .ok (.iconst 0, 1) := by decide +kernel
theorem dX10_start_20 : decode cX10_start 20 = .ok (.putfield 50, 3) := by decide +kernel
theorem dX10_start_23 : decode cX10_start 23 = .ok (.aload_n 0, 1) := by decide +kernel
theorem dX10_start_24 : decode cX10_start 24 = .ok (.iconst (-1), 1) := by decide +kernel
theorem dX10_start_25 : decode cX10_start 25 = .ok (.putfield 15, 3) := by decide +kernel
theorem dX10_start_28 : decode cX10_start 28 = .ok (.aload_n 0, 1) := by decide +kernel
theorem dX10_start_29 : decode cX10_start 29 = .ok (.invokevirtual 53, 3) := by decide +kernel
theorem dX10_start_32 : decode cX10_start 32 = .ok (.return_, 1) := by decide +kernel
theorem dX10_step_0 : decode cX10_step 0 = .ok (.aload_n 0, 1) := by decide +kernel
theorem dX10_step_1 : decode cX10_step 1 = .ok (.getfield 47, 3) := by decide +kernel
theorem dX10_step_4 : decode cX10_step 4 = .ok (.aload_n 0, 1) := by decide +kernel
theorem dX10_step_5 : decode cX10_step 5 = .ok (.getfield 45, 3) := by decide +kernel
theorem dX10_step_8 : decode cX10_step 8 = .ok (.if_icmp .ge 44, 3) := by decide +kernel
theorem dX10_step_11 : decode cX10_step 11 = .ok (.aload_n 0, 1) := by decide +kernel
theorem dX10_step_12 : decode cX10_step 12 = .ok (.getfield 19, 3) := by decide +kernel
theorem dX10_step_15 : decode cX10_step 15 = .ok (.aload_n 0, 1) := by decide +kernel
theorem dX10_step_16 : decode cX10_step 16 = .ok (.getfield 47, 3) := by decide +kernel
theorem dX10_step_19 : decode cX10_step 19 = .ok (.iaload, 1) := by decide +kernel
theorem dX10_step_20 : decode cX10_step 20 = .ok (.bipush 32, 2) := by decide +kernel
theorem dX10_step_22 : decode cX10_step 22 = .ok (.if_icmp .eq 17, 3) := by decide +kernel
theorem dX10_step_25 : decode cX10_step 25 = .ok (.aload_n 0, 1) := by decide +kernel
theorem dX10_step_26 : decode cX10_step 26 = .ok (.getfield 19, 3) := by decide +kernel
theorem dX10_step_29 : decode cX10_step 29 = .ok (.aload_n 0, 1) := by decide +kernel
theorem dX10_step_30 : decode cX10_step 30 = .ok (.getfield 47, 3) := by decide +kernel
theorem dX10_step_33 : decode cX10_step 33 = .ok (.iaload, 1) := by decide +kernel
theorem dX10_step_34 : decode cX10_step 34 = .ok (.bipush 10, 2) := by decide +kernel
theorem dX10_step_36 : decode cX10_step 36 = .ok (.if_icmp .ne 16, 3) := by decide +kernel
theorem dX10_step_39 : decode cX10_step 39 = .ok (.aload_n 0, 1) := by decide +kernel
theorem dX10_step_40 : decode cX10_step 40 = .ok (.dup, 1) := by decide +kernel
theorem dX10_step_41 : decode cX10_step 41 = .ok (.getfield 47, 3) := by decide +kernel
theorem dX10_step_44 : decode cX10_step 44 = .ok (.iconst 1, 1) := by decide +kernel
theorem dX10_step_45 : decode cX10_step 45 = .ok (.iadd, 1) := by decide +kernel
theorem dX10_step_46 : decode cX10_step 46 = .ok (.putfield 47, 3) := by decide +kernel
theorem dX10_step_49 : decode cX10_step 49 = .ok (.goto (-49), 3) := by decide +kernel
theorem dX10_step_52 : decode cX10_step 52 = .ok (.aload_n 0, 1) := by decide +kernel
theorem dX10_step_53 : decode cX10_step 53 = .ok (.aload_n 0, 1) := by decide +kernel
theorem dX10_step_54 : decode cX10_step 54 = .ok (.getfield 47, 3) := by decide +kernel
theorem dX10_step_57 : decode cX10_step 57 = .ok (.putfield 56, 3) := by decide +kernel
theorem dX10_step_60 : decode cX10_step 60 = .ok (.aload_n 0, 1) := by decide +kernel
theorem dX10_step_61 : decode cX10_step 61 = .ok (.getfield 47, 3) := by decide +kernel
theorem dX10_step_64 : decode cX10_step 64 = .ok (.aload_n 0, 1) := by decide +kernel
theorem dX10_step_65 : decode cX10_step 65 = .ok (.getfield 45, 3) := by decide +kernel
theorem dX10_step_68 : decode cX10_step 68 = .ok (.if_icmp .lt 11, 3) := by decide +kernel
theorem dX10_step_71 : decode cX10_step 71 = .ok (.aload_n 0, 1) := by decide +kernel
theorem dX10_step_72 : decode cX10_step 72 = .ok (.iconst 0, 1) := by decide +kernel
theorem dX10_step_73 : decode cX10_step 73 = .ok (.putfield 59, 3) := by decide +kernel
theorem dX10_step_76 : decode cX10_step 76 = .ok (.goto 51, 3) := by decide +kernel
theorem dX10_step_79 : decode cX10_step 79 = .ok (.aload_n 0, 1) := by decide +kernel
theorem dX10_step_80 : decode cX10_step 80 = .ok (.getfield 19, 3) := by decide +kernel
theorem dX10_step_83 : decode cX10_step 83 = .ok (.aload_n 0, 1) := by decide +kernel
theorem dX10_step_84 : decode cX10_step 84 = .ok (.getfield 47, 3) := by decide +kernel
theorem dX10_step_87 : decode cX10_step 87 = .ok (.iaload, 1) := by decide +kernel
theorem dX10_step_88 : decode cX10_step 88 = .ok (.invokestatic 62, 3) := by decide +kernel
theorem dX10_step_91 : decode cX10_step 91 = .ok (.ifCond .eq 10, 3) := by decide +kernel
theorem dX10_step_94 : decode cX10_step 94 = .ok (.aload_n 0, 1) := by decide +kernel
theorem dX10_step_95 : decode cX10_step 95 = .ok (.invokevirtual 66, 3) := by decide +kernel
theorem dX10_step_98 : decode cX10_step 98 = .ok (.goto 29, 3) := by decide +kernel
theorem dX10_step_101 : decode cX10_step 101 = .ok (.aload_n 0, 1) := by decide +kernel
theorem dX10_step_102 : decode cX10_step 102 = .ok (.getfield 19, 3) := by decide +kernel
theorem dX10_step_105 : decode cX10_step 105 = .ok (.aload_n 0, 1) := by decide +kernel
theorem dX10_step_106 : decode cX10_step 106 = .ok (.getfield 47, 3) := by decide +kernel
theorem dX10_step_109 : decode cX10_step 109 = .ok (.iaload, 1) := by decide +kernel
theorem dX10_step_110 : decode cX10_step 110 = .ok (.invokestatic 69, 3) := by decide +kernel
theorem dX10_step_113 : decode cX10_step 113 = .ok (.ifCond .eq 10, 3) := by decide +kernel
theorem dX10_step_116 : decode cX10_step 116 = .ok (.aload_n 0, 1) := by decide +kernel
theorem dX10_step_117 : decode cX10_step 117 = .ok (.invokevirtual 72, 3) := by decide +kernel
theorem dX10_step_120 : decode cX10_step 120 = .ok (.goto 7, 3) := by decide +kernel
theorem dX10_step_123 : decode cX10_step 123 = .ok (.aload_n 0, 1) := by decide +kernel
theorem dX10_step_124 : decode cX10_step 124 = .ok (.invokevirtual 75, 3) := by decide +kernel
theorem dX10_step_127 : decode cX10_step 127 = .ok (.return_, 1) := by decide +kernel
theorem dX10_isSign_0 : decode cX10_isSign 0 = .ok (.aload_n 0, 1) := by decide +kernel
theorem dX10_isSign_1 : decode cX10_isSign 1 = .ok (.getfield 59, 3) := by decide +kernel
theorem dX10_isSign_4 : decode cX10_isSign 4 = .ok (.iconst 3, 1) := by decide +kernel
theorem dX10_isSign_5 : decode cX10_isSign 5 = .ok (.if_icmp .ne 15, 3) := by decide +kernel
theorem dX10_isSign_8 : decode cX10_isSign 8 = .ok (.aload_n 0, 1) := by decide +kernel
theorem dX10_isSign_9 : decode cX10_isSign 9 = .ok (.getfield 78, 3) := by decide +kernel
theorem dX10_isSign_12 : decode cX10_isSign 12 = .ok (.iload_n 1, 1) := by decide +kernel
theorem dX10_isSign_13 : decode cX10_isSign 13 = .ok (.if_icmp .ne 7, 3) := by decide +kernel
theorem dX10_isSign_16 : decode cX10_isSign 16 = .ok (.iconst 1, 1) := by decide +kernel
theorem dX10_isSign_17 : decode cX10_isSign 17 = .ok (.goto 4, 3) := by decide +kernel
theorem dX10_isSign_20 : decode cX10_isSign 20 = .ok (.iconst 0, 1) := by decide +kernel
theorem dX10_isSign_21 : decode cX10_isSign 21 = .ok (.ireturn, 1) := by decide +kernel
theorem dX10_isWord_0 : decode cX10_isWord 0 = .ok (.aload_n 0, 1) := by decide +kernel
theorem dX10_isWord_1 : decode cX10_isWord 1 = .ok (.getfield 59, 3) := by decide +kernel
theorem dX10_isWord_4 : decode cX10_isWord 4 = .ok (.iconst 2, 1) := by decide +kernel
theorem dX10_isWord_5 : decode cX10_isWord 5 = .ok (.if_icmp .ne 25, 3) := by decide +kernel
theorem dX10_isWord_8 : decode cX10_isWord 8 = .ok (.aload_n 0, 1) := by decide +kernel
theorem dX10_isWord_9 : decode cX10_isWord 9 = .ok (.getfield 78, 3) := by decide +kernel
theorem dX10_isWord_12 : decode cX10_isWord 12 = .ok (.iload_n 1, 1) := by decide +kernel
theorem dX10_isWord_13 : decode cX10_isWord 13 = .ok (.if_icmp .lt 17, 3) := by decide +kernel
theorem dX10_isWord_16 : decode cX10_isWord 16 = .ok (.aload_n 0, 1) := by decide +kernel
theorem dX10_isWord_17 : decode cX10_isWord 17 = .ok (.getfield 78, 3) := by decide +kernel
theorem dX10_isWord_20 : decode cX10_isWord 20 = .ok (.iload_n 1, 1) := by decide +kernel
theorem dX10_isWord_21 : decode cX10_isWord 21 = .ok (.iload_n 2, 1) := by decide +kernel
theorem dX10_isWord_22 : decode cX10_isWord 22 = .ok (.iadd, 1) := by decide +kernel
theorem dX10_isWord_23 : decode cX10_isWord 23 = .ok (.if_icmp .ge 7, 3) := by decide +kernel
theorem dX10_isWord_26 : decode cX10_isWord 26 = .ok (.iconst 1, 1) := by decide +kernel
theorem dX10_isWord_27 : decode cX10_isWord 27 = .ok (.goto 4, 3) := by decide +kernel
theorem dX10_isWord_30 : decode cX10_isWord 30 = .ok (.iconst 0, 1) := by decide +kernel
theorem dX10_isWord_31 : decode cX10_isWord 31 = .ok (.ireturn, 1) := by decide +kernel
theorem dX10_refuse_0 : decode cX10_refuse 0 = .ok (.aload_n 0, 1) := by decide +kernel
theorem dX10_refuse_1 : decode cX10_refuse 1 = .ok (.iload_n 1, 1) := by decide +kernel
theorem dX10_refuse_2 : decode cX10_refuse 2 = .ok (.putfield 50, 3) := by decide +kernel
theorem dX10_refuse_5 : decode cX10_refuse 5 = .ok (.aload_n 0, 1) := by decide +kernel
theorem dX10_refuse_6 : decode cX10_refuse 6 = .ok (.aload_n 0, 1) := by decide +kernel
theorem dX10_refuse_7 : decode cX10_refuse 7 = .ok (.getfield 56, 3) := by decide +kernel
theorem dX10_refuse_10 : decode cX10_refuse 10 = .ok (.putfield 15, 3) := by decide +kernel
theorem dX10_refuse_13 : decode cX10_refuse 13 = .ok (.iconst 0, 1) := by decide +kernel
theorem dX10_refuse_14 : decode cX10_refuse 14 = .ok (.ireturn, 1) := by decide +kernel
theorem dX10_takeSign_0 : decode cX10_takeSign 0 = .ok (.aload_n 0, 1) := by decide +kernel
theorem dX10_takeSign_1 : decode cX10_takeSign 1 = .ok (.iload_n 1, 1) := by decide +kernel
theorem dX10_takeSign_2 : decode cX10_takeSign 2 = .ok (.invokevirtual 81, 3) := by decide +kernel
theorem dX10_takeSign_5 : decode cX10_takeSign 5 = .ok (.ifCond .ne 9, 3) := by decide +kernel
theorem dX10_takeSign_8 : decode cX10_takeSign 8 = .ok (.aload_n 0, 1) := by decide +kernel
theorem dX10_takeSign_9 : decode cX10_takeSign 9 = .ok (.iconst 1, 1) := by decide +kernel
theorem dX10_takeSign_10 : decode cX10_takeSign 10 = .ok (.invokevirtual 84, 3) := by decide +kernel
theorem dX10_takeSign_13 : decode cX10_takeSign 13 = .ok (.ireturn, 1) := by decide +kernel
theorem dX10_takeSign_14 : decode cX10_takeSign 14 = .ok (.aload_n 0, 1) := by decide +kernel
theorem dX10_takeSign_15 : decode cX10_takeSign 15 = .ok (.invokevirtual 53, 3) := by decide +kernel
theorem dX10_takeSign_18 : decode cX10_takeSign 18 = .ok (.iconst 1, 1) := by decide +kernel
theorem dX10_takeSign_19 : decode cX10_takeSign 19 = .ok (.ireturn, 1) := by decide +kernel
theorem dX10_isNumberTo_0 : decode cX10_isNumberTo 0 = .ok (.aload_n 0, 1) := by decide +kernel
theorem dX10_isNumberTo_1 : decode cX10_isNumberTo 1 = .ok (.getfield 59, 3) := by decide +kernel
theorem dX10_isNumberTo_4 : decode cX10_isNumberTo 4 = .ok (.iconst 1, 1) := by decide +kernel
theorem dX10_isNumberTo_5 : decode cX10_isNumberTo 5 = .ok (.if_icmp .eq 9, 3) := by decide +kernel
theorem dX10_isNumberTo_8 : decode cX10_isNumberTo 8 = .ok (.aload_n 0, 1) := by decide +kernel
theorem dX10_isNumberTo_9 : decode cX10_isNumberTo 9 = .ok (.iconst 1, 1) := by decide +kernel
theorem dX10_isNumberTo_10 : decode cX10_isNumberTo 10 = .ok (.invokevirtual 84, 3) := by decide +kernel
theorem dX10_isNumberTo_13 : decode cX10_isNumberTo 13 = .ok (.ireturn, 1) := by decide +kernel
theorem dX10_isNumberTo_14 : decode cX10_isNumberTo 14 = .ok (.aload_n 0, 1) := by decide +kernel
theorem dX10_isNumberTo_15 : decode cX10_isNumberTo 15 = .ok (.getfield 78, 3) := by decide +kernel
theorem dX10_isNumberTo_18 : decode cX10_isNumberTo 18 = .ok (.iload_n 1, 1) := by decide +kernel
theorem dX10_isNumberTo_19 : decode cX10_isNumberTo 19 = .ok (.if_icmp .le 11, 3) := by decide +kernel
theorem dX10_isNumberTo_22 : decode cX10_isNumberTo 22 = .ok (.aload_n 0, 1) := by decide +kernel
theorem dX10_isNumberTo_23 : decode cX10_isNumberTo 23 = .ok (.iconst 2, 1) := by decide +kernel
theorem dX10_isNumberTo_24 : decode cX10_isNumberTo 24 = .ok (.invokevirtual 84, 3) := by decide +kernel
theorem dX10_isNumberTo_27 : decode cX10_isNumberTo 27 = .ok (.ifCond .eq 7, 3) := by decide +kernel
theorem dX10_isNumberTo_30 : decode cX10_isNumberTo 30 = .ok (.iconst 1, 1) := by decide +kernel
theorem dX10_isNumberTo_31 : decode cX10_isNumberTo 31 = .ok (.goto 4, 3) := by decide +kernel
theorem dX10_isNumberTo_34 : decode cX10_isNumberTo 34 = .ok (.iconst 0, 1) := by decide +kernel
theorem dX10_isNumberTo_35 : decode cX10_isNumberTo 35 = .ok (.ireturn, 1) := by decide +kernel
theorem dX10_cutNumber_0 : decode cX10_cutNumber 0 = .ok (.aload_n 0, 1) := by decide +kernel
theorem dX10_cutNumber_1 : decode cX10_cutNumber 1 = .ok (.iconst 1, 1) := by decide +kernel
theorem dX10_cutNumber_2 : decode cX10_cutNumber 2 = .ok (.putfield 59, 3) := by decide +kernel
theorem dX10_cutNumber_5 : decode cX10_cutNumber 5 = .ok (.aload_n 0, 1) := by decide +kernel
theorem dX10_cutNumber_6 : decode cX10_cutNumber 6 = .ok (.iconst 0, 1) := by decide +kernel
theorem dX10_cutNumber_7 : decode cX10_cutNumber 7 = .ok (.putfield 78, 3) := by decide +kernel
theorem dX10_cutNumber_10 : decode cX10_cutNumber 10 = .ok (.aload_n 0, 1) := by decide +kernel
theorem dX10_cutNumber_11 : decode cX10_cutNumber 11 = .ok (.getfield 47, 3) := by decide +kernel
theorem dX10_cutNumber_14 : decode cX10_cutNumber 14 = .ok (.aload_n 0, 1) := by decide +kernel
theorem dX10_cutNumber_15 : decode cX10_cutNumber 15 = .ok (.getfield 45, 3) := by decide +kernel
theorem dX10_cutNumber_18 : decode cX10_cutNumber 18 = .ok (.if_icmp .ge 61, 3) := by decide +kernel
theorem dX10_cutNumber_21 : decode cX10_cutNumber 21 = .ok (.aload_n 0, 1) := by decide +kernel
theorem dX10_cutNumber_22 : decode cX10_cutNumber 22 = .ok (.getfield 19, 3) := by decide +kernel
theorem dX10_cutNumber_25 : decode cX10_cutNumber 25 = .ok (.aload_n 0, 1) := by decide +kernel
theorem dX10_cutNumber_26 : decode cX10_cutNumber 26 = .ok (.getfield 47, 3) := by decide +kernel
theorem dX10_cutNumber_29 : decode cX10_cutNumber 29 = .ok (.iaload, 1) := by decide +kernel
theorem dX10_cutNumber_30 : decode cX10_cutNumber 30 = .ok (.invokestatic 62, 3) := by decide +kernel
theorem dX10_cutNumber_33 : decode cX10_cutNumber 33 = .ok (.ifCond .eq 46, 3) := by decide +kernel
theorem dX10_cutNumber_36 : decode cX10_cutNumber 36 = .ok (.aload_n 0, 1) := by decide +kernel
theorem dX10_cutNumber_37 : decode cX10_cutNumber 37 = .ok (.aload_n 0, 1) := by decide +kernel
theorem dX10_cutNumber_38 : decode cX10_cutNumber 38 = .ok (.getfield 78, 3) := by decide +kernel
theorem dX10_cutNumber_41 : decode cX10_cutNumber 41 = .ok (.bipush 10, 2) := by decide +kernel
theorem dX10_cutNumber_43 : decode cX10_cutNumber 43 = .ok (.imul, 1) := by decide +kernel
theorem dX10_cutNumber_44 : decode cX10_cutNumber 44 = .ok (.aload_n 0, 1) := by decide +kernel
theorem dX10_cutNumber_45 : decode cX10_cutNumber 45 = .ok (.getfield 19, 3) := by decide +kernel
theorem dX10_cutNumber_48 : decode cX10_cutNumber 48 = .ok (.aload_n 0, 1) := by decide +kernel
theorem dX10_cutNumber_49 : decode cX10_cutNumber 49 = .ok (.getfield 47, 3) := by decide +kernel
theorem dX10_cutNumber_52 : decode cX10_cutNumber 52 = .ok (.iaload, 1) := by decide +kernel
theorem dX10_cutNumber_53 : decode cX10_cutNumber 53 = .ok (.iadd, 1) := by decide +kernel
theorem dX10_cutNumber_54 : decode cX10_cutNumber 54 = .ok (.bipush 48, 2) := by decide +kernel
theorem dX10_cutNumber_56 : decode cX10_cutNumber 56 = .ok (.isub, 1) := by decide +kernel
theorem dX10_cutNumber_57 : decode cX10_cutNumber 57 = .ok (.sipush 1000, 3) := by decide +kernel
theorem dX10_cutNumber_60 : decode cX10_cutNumber 60 = .ok (.invokestatic 39, 3) := by decide +kernel
theorem dX10_cutNumber_63 : decode cX10_cutNumber 63 = .ok (.putfield 78, 3) := by decide +kernel
theorem dX10_cutNumber_66 : decode cX10_cutNumber 66 = .ok (.aload_n 0, 1) := by decide +kernel
theorem dX10_cutNumber_67 : decode cX10_cutNumber 67 = .ok (.dup, 1) := by decide +kernel
theorem dX10_cutNumber_68 : decode cX10_cutNumber 68 = .ok (.getfield 47, 3) := by decide +kernel
theorem dX10_cutNumber_71 : decode cX10_cutNumber 71 = .ok (.iconst 1, 1) := by decide +kernel
theorem dX10_cutNumber_72 : decode cX10_cutNumber 72 = .ok (.iadd, 1) := by decide +kernel
theorem dX10_cutNumber_73 : decode cX10_cutNumber 73 = .ok (.putfield 47, 3) := by decide +kernel
theorem dX10_cutNumber_76 : decode cX10_cutNumber 76 = .ok (.goto (-66), 3) := by decide +kernel
theorem dX10_cutNumber_79 : decode cX10_cutNumber 79 = .ok (.return_, 1) := by decide +kernel
theorem dX10_cutWord_0 : decode cX10_cutWord 0 = .ok (.aload_n 0, 1) := by decide +kernel
theorem dX10_cutWord_1 : decode cX10_cutWord 1 = .ok (.iconst 2, 1) := by decide +kernel
theorem dX10_cutWord_2 : decode cX10_cutWord 2 = .ok (.putfield 59, 3) := by decide +kernel
theorem dX10_cutWord_5 : decode cX10_cutWord 5 = .ok (.aload_n 0, 1) := by decide +kernel
theorem dX10_cutWord_6 : decode cX10_cutWord 6 = .ok (.lconst 0, 1) := by decide +kernel
theorem dX10_cutWord_7 : decode cX10_cutWord 7 = .ok (.putfield 87, 3) := by decide +kernel
theorem dX10_cutWord_10 : decode cX10_cutWord 10 = .ok (.aload_n 0, 1) := by decide +kernel
theorem dX10_cutWord_11 : decode cX10_cutWord 11 = .ok (.getfield 47, 3) := by decide +kernel
theorem dX10_cutWord_14 : decode cX10_cutWord 14 = .ok (.aload_n 0, 1) := by decide +kernel
theorem dX10_cutWord_15 : decode cX10_cutWord 15 = .ok (.getfield 45, 3) := by decide +kernel
theorem dX10_cutWord_18 : decode cX10_cutWord 18 = .ok (.if_icmp .ge 65, 3) := by decide +kernel
theorem dX10_cutWord_21 : decode cX10_cutWord 21 = .ok (.aload_n 0, 1) := by decide +kernel
theorem dX10_cutWord_22 : decode cX10_cutWord 22 = .ok (.getfield 19, 3) := by decide +kernel
theorem dX10_cutWord_25 : decode cX10_cutWord 25 = .ok (.aload_n 0, 1) := by decide +kernel
theorem dX10_cutWord_26 : decode cX10_cutWord 26 = .ok (.getfield 47, 3) := by decide +kernel
theorem dX10_cutWord_29 : decode cX10_cutWord 29 = .ok (.iaload, 1) := by decide +kernel
theorem dX10_cutWord_30 : decode cX10_cutWord 30 = .ok (.invokestatic 69, 3) := by decide +kernel
theorem dX10_cutWord_33 : decode cX10_cutWord 33 = .ok (.ifCond .eq 50, 3) := by decide +kernel
theorem dX10_cutWord_36 : decode cX10_cutWord 36 = .ok (.aload_n 0, 1) := by decide +kernel
theorem dX10_cutWord_37 : decode cX10_cutWord 37 = .ok (.getfield 47, 3) := by decide +kernel
theorem dX10_cutWord_40 : decode cX10_cutWord 40 = .ok (.aload_n 0, 1) := by decide +kernel
theorem dX10_cutWord_41 : decode cX10_cutWord 41 = .ok (.getfield 56, 3) := by decide +kernel
theorem dX10_cutWord_44 : decode cX10_cutWord 44 = .ok (.isub, 1) := by decide +kernel
theorem dX10_cutWord_45 : decode cX10_cutWord 45 = .ok (.bipush 8, 2) := by decide +kernel
theorem dX10_cutWord_47 : decode cX10_cutWord 47 = .ok (.if_icmp .ge 23, 3) := by decide +kernel
theorem dX10_cutWord_50 : decode cX10_cutWord 50 = .ok (.aload_n 0, 1) := by decide +kernel
theorem dX10_cutWord_51 : decode cX10_cutWord 51 = .ok (.aload_n 0, 1) := by decide +kernel
theorem dX10_cutWord_52 : decode cX10_cutWord 52 = .ok (.getfield 87, 3) := by decide +kernel
theorem dX10_cutWord_55 : decode cX10_cutWord 55 = .ok (.aload_n 0, 1) := by decide +kernel
theorem dX10_cutWord_56 : decode cX10_cutWord 56 = .ok (.getfield 19, 3) := by decide +kernel
theorem dX10_cutWord_59 : decode cX10_cutWord 59 = .ok (.aload_n 0, 1) := by decide +kernel
theorem dX10_cutWord_60 : decode cX10_cutWord 60 = .ok (.getfield 47, 3) := by decide +kernel
theorem dX10_cutWord_63 : decode cX10_cutWord 63 = .ok (.iaload, 1) := by decide +kernel
theorem dX10_cutWord_64 : decode cX10_cutWord 64 = .ok (.invokestatic 35, 3) := by decide +kernel
theorem dX10_cutWord_67 : decode cX10_cutWord 67 = .ok (.putfield 87, 3) := by decide +kernel
theorem dX10_cutWord_70 : decode cX10_cutWord 70 = .ok (.aload_n 0, 1) := by decide +kernel
theorem dX10_cutWord_71 : decode cX10_cutWord 71 = .ok (.dup, 1) := by decide +kernel
theorem dX10_cutWord_72 : decode cX10_cutWord 72 = .ok (.getfield 47, 3) := by decide +kernel
theorem dX10_cutWord_75 : decode cX10_cutWord 75 = .ok (.iconst 1, 1) := by decide +kernel
theorem dX10_cutWord_76 : decode cX10_cutWord 76 = .ok (.iadd, 1) := by decide +kernel
theorem dX10_cutWord_77 : decode cX10_cutWord 77 = .ok (.putfield 47, 3) := by decide +kernel
theorem dX10_cutWord_80 : decode cX10_cutWord 80 = .ok (.goto (-70), 3) := by decide +kernel
theorem dX10_cutWord_83 : decode cX10_cutWord 83 = .ok (.aload_n 0, 1) := by decide +kernel
theorem dX10_cutWord_84 : decode cX10_cutWord 84 = .ok (.aload_n 0, 1) := by decide +kernel
theorem dX10_cutWord_85 : decode cX10_cutWord 85 = .ok (.getfield 47, 3) := by decide +kernel
theorem dX10_cutWord_88 : decode cX10_cutWord 88 = .ok (.aload_n 0, 1) := by decide +kernel
theorem dX10_cutWord_89 : decode cX10_cutWord 89 = .ok (.getfield 56, 3) := by decide +kernel
theorem dX10_cutWord_92 : decode cX10_cutWord 92 = .ok (.isub, 1) := by decide +kernel
theorem dX10_cutWord_93 : decode cX10_cutWord 93 = .ok (.bipush 8, 2) := by decide +kernel
theorem dX10_cutWord_95 : decode cX10_cutWord 95 = .ok (.if_icmp .le 8, 3) := by decide +kernel
theorem dX10_cutWord_98 : decode cX10_cutWord 98 = .ok (.bipush (-2), 2) := by decide +kernel
theorem dX10_cutWord_100 : decode cX10_cutWord 100 = .ok (.goto 7, 3) := by decide +kernel
theorem dX10_cutWord_103 : decode cX10_cutWord 103 = .ok (.aload_n 0, 1) := by decide +kernel
theorem dX10_cutWord_104 : decode cX10_cutWord 104 = .ok (.invokevirtual 91, 3) := by decide +kernel
theorem dX10_cutWord_107 : decode cX10_cutWord 107 = .ok (.putfield 78, 3) := by decide +kernel
theorem dX10_cutWord_110 : decode cX10_cutWord 110 = .ok (.return_, 1) := by decide +kernel
theorem dX10_wordNumber_0 : decode cX10_wordNumber 0 = .ok (.iconst 0, 1) := by decide +kernel
theorem dX10_wordNumber_1 : decode cX10_wordNumber 1 = .ok (.istore_n 1, 1) := by decide +kernel
theorem dX10_wordNumber_2 : decode cX10_wordNumber 2 = .ok (.iload_n 1, 1) := by decide +kernel
theorem dX10_wordNumber_3 : decode cX10_wordNumber 3 = .ok (.bipush 24, 2) := by decide +kernel
theorem dX10_wordNumber_5 : decode cX10_wordNumber 5 = .ok (.if_icmp .ge 25, 3) := by decide +kernel
theorem dX10_wordNumber_8 : decode cX10_wordNumber 8 = .ok (.aload_n 0, 1) := by decide +kernel
theorem dX10_wordNumber_9 : decode cX10_wordNumber 9 = .ok (.getfield 9, 3) := by decide +kernel
theorem dX10_wordNumber_12 : decode cX10_wordNumber 12 = .ok (.iload_n 1, 1) := by decide +kernel
theorem dX10_wordNumber_13 : decode cX10_wordNumber 13 = .ok (.laload, 1) := by decide +kernel
theorem dX10_wordNumber_14 : decode cX10_wordNumber 14 = .ok (.aload_n 0, 1) := by decide +kernel
theorem dX10_wordNumber_15 : decode cX10_wordNumber 15 = .ok (.getfield 87, 3) := by decide +kernel
theorem dX10_wordNumber_18 : decode cX10_wordNumber 18 = .ok (.lcmp, 1) := by decide +kernel
theorem dX10_wordNumber_19 : decode cX10_wordNumber 19 = .ok (.ifCond .ne 5, 3) := by decide +kernel
theorem dX10_wordNumber_22 : decode cX10_wordNumber 22 = .ok (.iload_n 1, 1) := by decide +kernel
theorem dX10_wordNumber_23 : decode cX10_wordNumber 23 = .ok (.ireturn, 1) := by decide +kernel
theorem dX10_wordNumber_24 : decode cX10_wordNumber 24 = .ok (.iinc 1 1, 3) := by decide +kernel
theorem dX10_wordNumber_27 : decode cX10_wordNumber 27 = .ok (.goto (-25), 3) := by decide +kernel
theorem dX10_wordNumber_30 : decode cX10_wordNumber 30 = .ok (.iconst (-1), 1) := by decide +kernel
theorem dX10_wordNumber_31 : decode cX10_wordNumber 31 = .ok (.ireturn, 1) := by decide +kernel
theorem dX10_cutSign_0 : decode cX10_cutSign 0 = .ok (.aload_n 0, 1) := by decide +kernel
theorem dX10_cutSign_1 : decode cX10_cutSign 1 = .ok (.iconst 3, 1) := by decide +kernel
theorem dX10_cutSign_2 : decode cX10_cutSign 2 = .ok (.putfield 59, 3) := by decide +kernel
theorem dX10_cutSign_5 : decode cX10_cutSign 5 = .ok (.aload_n 0, 1) := by decide +kernel
theorem dX10_cutSign_6 : decode cX10_cutSign 6 = .ok (.aload_n 0, 1) := by decide +kernel
theorem dX10_cutSign_7 : decode cX10_cutSign 7 = .ok (.getfield 19, 3) := by decide +kernel
theorem dX10_cutSign_10 : decode cX10_cutSign 10 = .ok (.aload_n 0, 1) := by decide +kernel
theorem dX10_cutSign_11 : decode cX10_cutSign 11 = .ok (.getfield 47, 3) := by decide +kernel
theorem dX10_cutSign_14 : decode cX10_cutSign 14 = .ok (.iaload, 1) := by decide +kernel
theorem dX10_cutSign_15 : decode cX10_cutSign 15 = .ok (.putfield 78, 3) := by decide +kernel
theorem dX10_cutSign_18 : decode cX10_cutSign 18 = .ok (.aload_n 0, 1) := by decide +kernel
theorem dX10_cutSign_19 : decode cX10_cutSign 19 = .ok (.dup, 1) := by decide +kernel
theorem dX10_cutSign_20 : decode cX10_cutSign 20 = .ok (.getfield 47, 3) := by decide +kernel
theorem dX10_cutSign_23 : decode cX10_cutSign 23 = .ok (.iconst 1, 1) := by decide +kernel
theorem dX10_cutSign_24 : decode cX10_cutSign 24 = .ok (.iadd, 1) := by decide +kernel
theorem dX10_cutSign_25 : decode cX10_cutSign 25 = .ok (.putfield 47, 3) := by decide +kernel
theorem dX10_cutSign_28 : decode cX10_cutSign 28 = .ok (.aload_n 0, 1) := by decide +kernel
theorem dX10_cutSign_29 : decode cX10_cutSign 29 = .ok (.getfield 78, 3) := by decide +kernel
theorem dX10_cutSign_32 : decode cX10_cutSign 32 = .ok (.bipush 60, 2) := by decide +kernel
theorem dX10_cutSign_34 : decode cX10_cutSign 34 = .ok (.if_icmp .eq 12, 3) := by decide +kernel
theorem dX10_cutSign_37 : decode cX10_cutSign 37 = .ok (.aload_n 0, 1) := by decide +kernel
theorem dX10_cutSign_38 : decode cX10_cutSign 38 = .ok (.getfield 78, 3) := by decide +kernel
theorem dX10_cutSign_41 : decode cX10_cutSign 41 = .ok (.bipush 62, 2) := by decide +kernel
theorem dX10_cutSign_43 : decode cX10_cutSign 43 = .ok (.if_icmp .ne 50, 3) := by decide +kernel
theorem dX10_cutSign_46 : decode cX10_cutSign 46 = .ok (.aload_n 0, 1) := by decide +kernel
theorem dX10_cutSign_47 : decode cX10_cutSign 47 = .ok (.getfield 47, 3) := by decide +kernel
theorem dX10_cutSign_50 : decode cX10_cutSign 50 = .ok (.aload_n 0, 1) := by decide +kernel
theorem dX10_cutSign_51 : decode cX10_cutSign 51 = .ok (.getfield 45, 3) := by decide +kernel
theorem dX10_cutSign_54 : decode cX10_cutSign 54 = .ok (.if_icmp .ge 39, 3) := by decide +kernel
theorem dX10_cutSign_57 : decode cX10_cutSign 57 = .ok (.aload_n 0, 1) := by decide +kernel
theorem dX10_cutSign_58 : decode cX10_cutSign 58 = .ok (.getfield 19, 3) := by decide +kernel
theorem dX10_cutSign_61 : decode cX10_cutSign 61 = .ok (.aload_n 0, 1) := by decide +kernel
theorem dX10_cutSign_62 : decode cX10_cutSign 62 = .ok (.getfield 47, 3) := by decide +kernel
theorem dX10_cutSign_65 : decode cX10_cutSign 65 = .ok (.iaload, 1) := by decide +kernel
theorem dX10_cutSign_66 : decode cX10_cutSign 66 = .ok (.bipush 61, 2) := by decide +kernel
theorem dX10_cutSign_68 : decode cX10_cutSign 68 = .ok (.if_icmp .ne 25, 3) := by decide +kernel
theorem dX10_cutSign_71 : decode cX10_cutSign 71 = .ok (.aload_n 0, 1) := by decide +kernel
theorem dX10_cutSign_72 : decode cX10_cutSign 72 = .ok (.dup, 1) := by decide +kernel
theorem dX10_cutSign_73 : decode cX10_cutSign 73 = .ok (.getfield 78, 3) := by decide +kernel
theorem dX10_cutSign_76 : decode cX10_cutSign 76 = .ok (.sipush 256, 3) := by decide +kernel
theorem dX10_cutSign_79 : decode cX10_cutSign 79 = .ok (.iadd, 1) := by decide +kernel
theorem dX10_cutSign_80 : decode cX10_cutSign 80 = .ok (.putfield 78, 3) := by decide +kernel
theorem dX10_cutSign_83 : decode cX10_cutSign 83 = .ok (.aload_n 0, 1) := by decide +kernel
theorem dX10_cutSign_84 : decode cX10_cutSign 84 = .ok (.dup, 1) := by decide +kernel
theorem dX10_cutSign_85 : decode cX10_cutSign 85 = .ok (.getfield 47, 3) := by decide +kernel
theorem dX10_cutSign_88 : decode cX10_cutSign 88 = .ok (.iconst 1, 1) := by decide +kernel
theorem dX10_cutSign_89 : decode cX10_cutSign 89 = .ok (.iadd, 1) := by decide +kernel
theorem dX10_cutSign_90 : decode cX10_cutSign 90 = .ok (.putfield 47, 3) := by decide +kernel
theorem dX10_cutSign_93 : decode cX10_cutSign 93 = .ok (.return_, 1) := by decide +kernel
theorem dX10_isDigit_0 : decode cX10_isDigit 0 = .ok (.iload_n 0, 1) := by decide +kernel
theorem dX10_isDigit_1 : decode cX10_isDigit 1 = .ok (.bipush 48, 2) := by decide +kernel
theorem dX10_isDigit_3 : decode cX10_isDigit 3 = .ok (.if_icmp .lt 13, 3) := by decide +kernel
theorem dX10_isDigit_6 : decode cX10_isDigit 6 = .ok (.iload_n 0, 1) := by decide +kernel
theorem dX10_isDigit_7 : decode cX10_isDigit 7 = .ok (.bipush 57, 2) := by decide +kernel
theorem dX10_isDigit_9 : decode cX10_isDigit 9 = .ok (.if_icmp .gt 7, 3) := by decide +kernel
theorem dX10_isDigit_12 : decode cX10_isDigit 12 = .ok (.iconst 1, 1) := by decide +kernel
theorem dX10_isDigit_13 : decode cX10_isDigit 13 = .ok (.goto 4, 3) := by decide +kernel
theorem dX10_isDigit_16 : decode cX10_isDigit 16 = .ok (.iconst 0, 1) := by decide +kernel
theorem dX10_isDigit_17 : decode cX10_isDigit 17 = .ok (.ireturn, 1) := by decide +kernel
theorem dX10_isLetter_0 : decode cX10_isLetter 0 = .ok (.iload_n 0, 1) := by decide +kernel
theorem dX10_isLetter_1 : decode cX10_isLetter 1 = .ok (.bipush 97, 2) := by decide +kernel
theorem dX10_isLetter_3 : decode cX10_isLetter 3 = .ok (.if_icmp .lt 13, 3) := by decide +kernel
theorem dX10_isLetter_6 : decode cX10_isLetter 6 = .ok (.iload_n 0, 1) := by decide +kernel
theorem dX10_isLetter_7 : decode cX10_isLetter 7 = .ok (.bipush 122, 2) := by decide +kernel
theorem dX10_isLetter_9 : decode cX10_isLetter 9 = .ok (.if_icmp .gt 7, 3) := by decide +kernel
theorem dX10_isLetter_12 : decode cX10_isLetter 12 = .ok (.iconst 1, 1) := by decide +kernel
theorem dX10_isLetter_13 : decode cX10_isLetter 13 = .ok (.goto 4, 3) := by decide +kernel
theorem dX10_isLetter_16 : decode cX10_isLetter 16 = .ok (.iconst 0, 1) := by decide +kernel
theorem dX10_isLetter_17 : decode cX10_isLetter 17 = .ok (.ireturn, 1) := by decide +kernel
theorem dX10_joined_0 : decode cX10_joined 0 = .ok (.lload_n 0, 1) := by decide +kernel
theorem dX10_joined_1 : decode cX10_joined 1 = .ok (.ldc2_w 94, 3) := by decide +kernel
theorem dX10_joined_4 : decode cX10_joined 4 = .ok (.lmul, 1) := by decide +kernel
theorem dX10_joined_5 : decode cX10_joined 5 = .ok (.iload_n 2, 1) := by decide +kernel
theorem dX10_joined_6 : decode cX10_joined 6 = .ok (.bipush 97, 2) := by decide +kernel
theorem dX10_joined_8 : decode cX10_joined 8 = .ok (.isub, 1) := by decide +kernel
theorem dX10_joined_9 : decode cX10_joined 9 = .ok (.iconst 1, 1) := by decide +kernel
theorem dX10_joined_10 : decode cX10_joined 10 = .ok (.iadd, 1) := by decide +kernel
theorem dX10_joined_11 : decode cX10_joined 11 = .ok (.i2l, 1) := by decide +kernel
theorem dX10_joined_12 : decode cX10_joined 12 = .ok (.ladd, 1) := by decide +kernel
theorem dX10_joined_13 : decode cX10_joined 13 = .ok (.lreturn, 1) := by decide +kernel
theorem dX11_init_0 : decode cX11_init 0 = .ok (.aload_n 0, 1) := by decide +kernel
theorem dX11_init_1 : decode cX11_init 1 = .ok (.invokespecial 1, 3) := by decide +kernel
theorem dX11_init_4 : decode cX11_init 4 = .ok (.aload_n 0, 1) := by decide +kernel
theorem dX11_init_5 : decode cX11_init 5 = .ok (.sipush 800, 3) := by decide +kernel
theorem dX11_init_8 : decode cX11_init 8 = .ok (.newarray .int, 2) := by decide +kernel
theorem dX11_init_10 : decode cX11_init 10 = .ok (.putfield 9, 3) := by decide +kernel
theorem dX11_init_13 : decode cX11_init 13 = .ok (.aload_n 0, 1) := by decide +kernel
theorem dX11_init_14 : decode cX11_init 14 = .ok (.new 13, 3) := by decide +kernel
theorem dX11_init_17 : decode cX11_init 17 = .ok (.dup, 1) := by decide +kernel
theorem dX11_init_18 : decode cX11_init 18 = .ok (.aload_n 0, 1) := by decide +kernel
theorem dX11_init_19 : decode cX11_init 19 = .ok (.getfield 9, 3) := by decide +kernel
theorem dX11_init_22 : decode cX11_init 22 = .ok (.invokespecial 15, 3) := by decide +kernel
theorem dX11_init_25 : decode cX11_init 25 = .ok (.putfield 18, 3) := by decide +kernel
theorem dX11_init_28 : decode cX11_init 28 = .ok (.aload_n 0, 1) := by decide +kernel
theorem dX11_init_29 : decode cX11_init 29 = .ok (.new 22, 3) := by decide +kernel
theorem dX11_init_32 : decode cX11_init 32 = .ok (.dup, 1) := by decide +kernel
theorem dX11_init_33 : decode cX11_init 33 = .ok (.aload_n 0, 1) := by decide +kernel
theorem dX11_init_34 : decode cX11_init 34 = .ok (.getfield 18, 3) := by decide +kernel
theorem dX11_init_37 : decode cX11_init 37 = .ok (.invokespecial 24, 3) := by decide +kernel
theorem dX11_init_40 : decode cX11_init 40 = .ok (.putfield 27, 3) := by decide +kernel
theorem dX11_init_43 : decode cX11_init 43 = .ok (.aload_n 0, 1) := by decide +kernel
theorem dX11_init_44 : decode cX11_init 44 = .ok (.new 31, 3) := by decide +kernel
theorem dX11_init_47 : decode cX11_init 47 = .ok (.dup, 1) := by decide +kernel
theorem dX11_init_48 : decode cX11_init 48 = .ok (.invokespecial 33, 3) := by decide +kernel
theorem dX11_init_51 : decode cX11_init 51 = .ok (.putfield 34, 3) := by decide +kernel
theorem dX11_init_54 : decode cX11_init 54 = .ok (.aload_n 0, 1) := by decide +kernel
theorem dX11_init_55 : decode cX11_init 55 = .ok (.iconst (-1), 1) := by decide +kernel
theorem dX11_init_56 : decode cX11_init 56 = .ok (.putfield 38, 3) := by decide +kernel
theorem dX11_init_59 : decode cX11_init 59 = .ok (.aload_n 0, 1) := by decide +kernel
theorem dX11_init_60 : decode cX11_init 60 = .ok (.new 42, 3) := by decide +kernel
theorem dX11_init_63 : decode cX11_init 63 = .ok (.dup, 1) := by decide +kernel
theorem dX11_init_64 : decode cX11_init 64 = .ok (.invokespecial 44, 3) := by decide +kernel
theorem dX11_init_67 : decode cX11_init 67 = .ok (.putfield 45, 3) := by decide +kernel
theorem dX11_init_70 : decode cX11_init 70 = .ok (.aload_n 0, 1) := by decide +kernel
theorem dX11_init_71 : decode cX11_init 71 = .ok (.new 49, 3) := by decide +kernel
theorem dX11_init_74 : decode cX11_init 74 = .ok (.dup, 1) := by decide +kernel
theorem dX11_init_75 : decode cX11_init 75 = .ok (.invokespecial 51, 3) := by decide +kernel
theorem dX11_init_78 : decode cX11_init 78 = .ok (.putfield 52, 3) := by decide +kernel
theorem dX11_init_81 : decode cX11_init 81 = .ok (.aload_n 0, 1) := by decide +kernel
theorem dX11_init_82 : decode cX11_init 82 = .ok (.new 56, 3) := by decide +kernel
theorem dX11_init_85 : decode cX11_init 85 = .ok (.dup, 1) := by decide +kernel
theorem dX11_init_86 : decode cX11_init 86 = .ok (.aload_n 0, 1) := by decide +kernel
theorem dX11_init_87 : decode cX11_init 87 = .ok (.getfield 45, 3) := by decide +kernel
theorem dX11_init_90 : decode cX11_init 90 = .ok (.aload_n 0, 1) := by decide +kernel
theorem dX11_init_91 : decode cX11_init 91 = .ok (.getfield 52, 3) := by decide +kernel
theorem dX11_init_94 : decode cX11_init 94 = .ok (.invokespecial 58, 3) := by decide +kernel
theorem dX11_init_97 : decode cX11_init 97 = .ok (.putfield 61, 3) := by decide +kernel
theorem dX11_init_100 : decode cX11_init 100 = .ok (.aload_n 0, 1) := by decide +kernel
theorem dX11_init_101 : decode cX11_init 101 = .ok (.new 65, 3) := by decide +kernel
theorem dX11_init_104 : decode cX11_init 104 = .ok (.dup, 1) := by decide +kernel
theorem dX11_init_105 : decode cX11_init 105 = .ok (.aload_n 0, 1) := by decide +kernel
theorem dX11_init_106 : decode cX11_init 106 = .ok (.getfield 45, 3) := by decide +kernel
theorem dX11_init_109 : decode cX11_init 109 = .ok (.aload_n 0, 1) := by decide +kernel
theorem dX11_init_110 : decode cX11_init 110 = .ok (.getfield 61, 3) := by decide +kernel
theorem dX11_init_113 : decode cX11_init 113 = .ok (.invokespecial 67, 3) := by decide +kernel
theorem dX11_init_116 : decode cX11_init 116 = .ok (.putfield 70, 3) := by decide +kernel
theorem dX11_init_119 : decode cX11_init 119 = .ok (.aload_n 0, 1) := by decide +kernel
theorem dX11_init_120 : decode cX11_init 120 = .ok (.new 74, 3) := by decide +kernel
theorem dX11_init_123 : decode cX11_init 123 = .ok (.dup, 1) := by decide +kernel
theorem dX11_init_124 : decode cX11_init 124 = .ok (.aload_n 0, 1) := by decide +kernel
theorem dX11_init_125 : decode cX11_init 125 = .ok (.getfield 45, 3) := by decide +kernel
theorem dX11_init_128 : decode cX11_init 128 = .ok (.invokespecial 76, 3) := by decide +kernel
theorem dX11_init_131 : decode cX11_init 131 = .ok (.putfield 79, 3) := by decide +kernel
theorem dX11_init_134 : decode cX11_init 134 = .ok (.aload_n 0, 1) := by decide +kernel
theorem dX11_init_135 : decode cX11_init 135 = .ok (.new 83, 3) := by decide +kernel
theorem dX11_init_138 : decode cX11_init 138 = .ok (.dup, 1) := by decide +kernel
theorem dX11_init_139 : decode cX11_init 139 = .ok (.aload_n 0, 1) := by decide +kernel
theorem dX11_init_140 : decode cX11_init 140 = .ok (.getfield 45, 3) := by decide +kernel
theorem dX11_init_143 : decode cX11_init 143 = .ok (.aload_n 0, 1) := by decide +kernel
theorem dX11_init_144 : decode cX11_init 144 = .ok (.getfield 52, 3) := by decide +kernel
theorem dX11_init_147 : decode cX11_init 147 = .ok (.aload_n 0, 1) := by decide +kernel
theorem dX11_init_148 : decode cX11_init 148 = .ok (.getfield 61, 3) := by decide +kernel
theorem dX11_init_151 : decode cX11_init 151 = .ok (.invokespecial 85, 3) := by decide +kernel
theorem dX11_init_154 : decode cX11_init 154 = .ok (.putfield 88, 3) := by decide +kernel
theorem dX11_init_157 : decode cX11_init 157 = .ok (.aload_n 0, 1) := by decide +kernel
theorem dX11_init_158 : decode cX11_init 158 = .ok (.new 92, 3) := by decide +kernel
theorem dX11_init_161 : decode cX11_init 161 = .ok (.dup, 1) := by decide +kernel
theorem dX11_init_162 : decode cX11_init 162 = .ok (.aload_n 0, 1) := by decide +kernel
theorem dX11_init_163 : decode cX11_init 163 = .ok (.getfield 52, 3) := by decide +kernel
theorem dX11_init_166 : decode cX11_init 166 = .ok (.invokespecial 94, 3) := by decide +kernel
theorem dX11_init_169 : decode cX11_init 169 = .ok (.putfield 97, 3) := by decide +kernel
theorem dX11_init_172 : decode cX11_init 172 = .ok (.aload_n 0, 1) := by decide +kernel
theorem dX11_init_173 : decode cX11_init 173 = .ok (.bipush 8, 2) := by decide +kernel
theorem dX11_init_175 : decode cX11_init 175 = .ok (.newarray .int, 2) := by decide +kernel
theorem dX11_init_177 : decode cX11_init 177 = .ok (.putfield 101, 3) := by decide +kernel
theorem dX11_init_180 : decode cX11_init 180 = .ok (.return_, 1) := by decide +kernel
theorem dX11_feed_0 : decode cX11_feed 0 = .ok (.aload_n 0, 1) := by decide +kernel
theorem dX11_feed_1 : decode cX11_feed 1 = .ok (.getfield 104, 3) := by decide +kernel
theorem dX11_feed_4 : decode cX11_feed 4 = .ok (.bipush 20, 2) := by decide +kernel
theorem dX11_feed_6 : decode cX11_feed 6 = .ok (.iadd, 1) := by decide +kernel
theorem dX11_feed_7 : decode cX11_feed 7 = .ok (.sipush 800, 3) := by decide +kernel
theorem dX11_feed_10 : decode cX11_feed 10 = .ok (.if_icmp .le 5, 3) := by decide +kernel
theorem dX11_feed_13 : decode cX11_feed 13 = .ok (.iconst (-1), 1) := by decide +kernel
theorem dX11_feed_14 : decode cX11_feed 14 = .ok (.ireturn, 1) := by decide +kernel
theorem dX11_feed_15 : decode cX11_feed 15 = .ok (.aload_n 0, 1) := by decide +kernel
theorem dX11_feed_16 : decode cX11_feed 16 = .ok (.iload_n 1, 1) := by decide +kernel
theorem dX11_feed_17 : decode cX11_feed 17 = .ok (.invokevirtual 107, 3) := by decide +kernel
theorem dX11_feed_20 : decode cX11_feed 20 = .ok (.aload_n 0, 1) := by decide +kernel
theorem dX11_feed_21 : decode cX11_feed 21 = .ok (.iload_n 2, 1) := by decide +kernel
theorem dX11_feed_22 : decode cX11_feed 22 = .ok (.invokevirtual 107, 3) := by decide +kernel
theorem dX11_feed_25 : decode cX11_feed 25 = .ok (.aload_n 0, 1) := by decide +kernel
theorem dX11_feed_26 : decode cX11_feed 26 = .ok (.iload_n 3, 1) := by decide +kernel
theorem dX11_feed_27 : decode cX11_feed 27 = .ok (.invokevirtual 107, 3) := by decide +kernel
theorem dX11_feed_30 : decode cX11_feed 30 = .ok (.aload_n 0, 1) := by decide +kernel
theorem dX11_feed_31 : decode cX11_feed 31 = .ok (.iload 4, 2) := by decide +kernel
theorem dX11_feed_33 : decode cX11_feed 33 = .ok (.invokevirtual 107, 3) := by decide +kernel
theorem dX11_feed_36 : decode cX11_feed 36 = .ok (.aload_n 0, 1) := by decide +kernel
theorem dX11_feed_37 : decode cX11_feed 37 = .ok (.iload 5, 2) := by decide +kernel
theorem dX11_feed_39 : decode cX11_feed 39 = .ok (.invokevirtual 107, 3) := by decide +kernel
theorem dX11_feed_42 : decode cX11_feed 42 = .ok (.aload_n 0, 1) := by decide +kernel
theorem dX11_feed_43 : decode cX11_feed 43 = .ok (.getfield 104, 3) := by decide +kernel
theorem dX11_feed_46 : decode cX11_feed 46 = .ok (.ireturn, 1) := by decide +kernel
theorem dX11_key_0 : decode cX11_key 0 = .ok (.iload_n 1, 1) := by decide +kernel
theorem dX11_key_1 : decode cX11_key 1 = .ok (.ifCond .lt 11, 3) := by decide +kernel
theorem dX11_key_4 : decode cX11_key 4 = .ok (.iload_n 1, 1) := by decide +kernel
theorem dX11_key_5 : decode cX11_key 5 = .ok (.aload_n 0, 1) := by decide +kernel
theorem dX11_key_6 : decode cX11_key 6 = .ok (.getfield 104, 3) := by decide +kernel
theorem dX11_key_9 : decode cX11_key 9 = .ok (.if_icmp .le 6, 3) := by decide +kernel
theorem dX11_key_12 : decode cX11_key 12 = .ok (.bipush (-2), 2) := by decide +kernel
theorem dX11_key_14 : decode cX11_key 14 = .ok (.ireturn, 1) := by decide +kernel
theorem dX11_key_15 : decode cX11_key 15 = .ok (.aload_n 0, 1) := by decide +kernel
theorem dX11_key_16 : decode cX11_key 16 = .ok (.getfield 18, 3) := by decide +kernel
theorem dX11_key_19 : decode cX11_key 19 = .ok (.iload_n 1, 1) := by decide +kernel
theorem dX11_key_20 : decode cX11_key 20 = .ok (.invokevirtual 111, 3) := by decide +kernel
theorem dX11_key_23 : decode cX11_key 23 = .ok (.aload_n 0, 1) := by decide +kernel
theorem dX11_key_24 : decode cX11_key 24 = .ok (.getfield 27, 3) := by decide +kernel
theorem dX11_key_27 : decode cX11_key 27 = .ok (.invokevirtual 114, 3) := by decide +kernel
theorem dX11_key_30 : decode cX11_key 30 = .ok (.istore_n 2, 1) := by decide +kernel
theorem dX11_key_31 : decode cX11_key 31 = .ok (.aload_n 0, 1) := by decide +kernel
theorem dX11_key_32 : decode cX11_key 32 = .ok (.invokevirtual 118, 3) := by decide +kernel
theorem dX11_key_35 : decode cX11_key 35 = .ok (.iload_n 2, 1) := by decide +kernel
theorem dX11_key_36 : decode cX11_key 36 = .ok (.ifCond .ne 5, 3) := by decide +kernel
theorem dX11_key_39 : decode cX11_key 39 = .ok (.iconst (-1), 1) := by decide +kernel
theorem dX11_key_40 : decode cX11_key 40 = .ok (.ireturn, 1) := by decide +kernel
theorem dX11_key_41 : decode cX11_key 41 = .ok (.aload_n 0, 1) := by decide +kernel
theorem dX11_key_42 : decode cX11_key 42 = .ok (.aload_n 0, 1) := by decide +kernel
theorem dX11_key_43 : decode cX11_key 43 = .ok (.getfield 27, 3) := by decide +kernel
theorem dX11_key_46 : decode cX11_key 46 = .ok (.aload_n 0, 1) := by decide +kernel
theorem dX11_key_47 : decode cX11_key 47 = .ok (.getfield 34, 3) := by decide +kernel
theorem dX11_key_50 : decode cX11_key 50 = .ok (.invokevirtual 121, 3) := by decide +kernel
theorem dX11_key_53 : decode cX11_key 53 = .ok (.putfield 34, 3) := by decide +kernel
theorem dX11_key_56 : decode cX11_key 56 = .ok (.aload_n 0, 1) := by decide +kernel
theorem dX11_key_57 : decode cX11_key 57 = .ok (.getfield 61, 3) := by decide +kernel
theorem dX11_key_60 : decode cX11_key 60 = .ok (.aload_n 0, 1) := by decide +kernel
theorem dX11_key_61 : decode cX11_key 61 = .ok (.getfield 34, 3) := by decide +kernel
theorem dX11_key_64 : decode cX11_key 64 = .ok (.getfield 125, 3) := by decide +kernel
theorem dX11_key_67 : decode cX11_key 67 = .ok (.invokevirtual 128, 3) := by decide +kernel
theorem dX11_key_70 : decode cX11_key 70 = .ok (.iconst 0, 1) := by decide +kernel
theorem dX11_key_71 : decode cX11_key 71 = .ok (.istore_n 3, 1) := by decide +kernel
theorem dX11_key_72 : decode cX11_key 72 = .ok (.iload_n 3, 1) := by decide +kernel
theorem dX11_key_73 : decode cX11_key 73 = .ok (.bipush 8, 2) := by decide +kernel
theorem dX11_key_75 : decode cX11_key 75 = .ok (.if_icmp .ge 16, 3) := by decide +kernel
theorem dX11_key_78 : decode cX11_key 78 = .ok (.aload_n 0, 1) := by decide +kernel
theorem dX11_key_79 : decode cX11_key 79 = .ok (.getfield 101, 3) := by decide +kernel
theorem dX11_key_82 : decode cX11_key 82 = .ok (.iload_n 3, 1) := by decide +kernel
theorem dX11_key_83 : decode cX11_key 83 = .ok (.iconst 0, 1) := by decide +kernel
theorem dX11_key_84 : decode cX11_key 84 = .ok (.iastore, 1) := by decide +kernel
theorem dX11_key_85 : decode cX11_key 85 = .ok (.iinc 3 1, 3) := by decide +kernel
theorem dX11_key_88 : decode cX11_key 88 = .ok (.goto (-16), 3) := by decide +kernel
theorem dX11_key_91 : decode cX11_key 91 = .ok (.aload_n 0, 1) := by decide +kernel
theorem dX11_key_92 : decode cX11_key 92 = .ok (.getfield 52, 3) := by decide +kernel
theorem dX11_key_95 : decode cX11_key 95 = .ok (.aload_n 0, 1) := by decide +kernel
theorem dX11_key_96 : decode cX11_key 96 = .ok (.getfield 34, 3) := by decide +kernel
theorem dX11_key_99 : decode cX11_key 99 = .ok (.invokevirtual 131, 3) := by decide +kernel
theorem dX11_key_102 : decode cX11_key 102 = .ok (.aload_n 0, 1) := by decide +kernel
theorem dX11_key_103 : decode cX11_key 103 = .ok (.getfield 34, 3) := by decide +kernel
theorem dX11_key_106 : decode cX11_key 106 = .ok (.getfield 135, 3) := by decide +kernel
theorem dX11_key_109 : decode cX11_key 109 = .ok (.ireturn, 1) := by decide +kernel
theorem dX11_bore_0 : decode cX11_bore 0 = .ok (.iload_n 1, 1) := by decide +kernel
theorem dX11_bore_1 : decode cX11_bore 1 = .ok (.ifCond .lt 41, 3) := by decide +kernel
theorem dX11_bore_4 : decode cX11_bore 4 = .ok (.iload_n 1, 1) := by decide +kernel
theorem dX11_bore_5 : decode cX11_bore 5 = .ok (.aload_n 0, 1) := by decide +kernel
theorem dX11_bore_6 : decode cX11_bore 6 = .ok (.getfield 104, 3) := by decide +kernel
theorem dX11_bore_9 : decode cX11_bore 9 = .ok (.if_icmp .gt 33, 3) := by decide +kernel
theorem dX11_bore_12 : decode cX11_bore 12 = .ok (.iload_n 2, 1) := by decide +kernel
theorem dX11_bore_13 : decode cX11_bore 13 = .ok (.invokestatic 138, 3) := by decide +kernel
theorem dX11_bore_16 : decode cX11_bore 16 = .ok (.ifCond .eq 26, 3) := by decide +kernel
theorem dX11_bore_19 : decode cX11_bore 19 = .ok (.aload_n 0, 1) := by decide +kernel
theorem dX11_bore_20 : decode cX11_bore 20 = .ok (.getfield 45, 3) := by decide +kernel
theorem dX11_bore_23 : decode cX11_bore 23 = .ok (.iload_n 3, 1) := by decide +kernel
theorem dX11_bore_24 : decode cX11_bore 24 = .ok (.invokevirtual 142, 3) := by decide +kernel
theorem dX11_bore_27 : decode cX11_bore 27 = .ok (.ifCond .eq 15, 3) := by decide +kernel
theorem dX11_bore_30 : decode cX11_bore 30 = .ok (.aload_n 0, 1) := by decide +kernel
theorem dX11_bore_31 : decode cX11_bore 31 = .ok (.getfield 52, 3) := by decide +kernel
theorem dX11_bore_34 : decode cX11_bore 34 = .ok (.getfield 145, 3) := by decide +kernel
theorem dX11_bore_37 : decode cX11_bore 37 = .ok (.bipush 60, 2) := by decide +kernel
theorem dX11_bore_39 : decode cX11_bore 39 = .ok (.if_icmp .lt 6, 3) := by decide +kernel
theorem dX11_bore_42 : decode cX11_bore 42 = .ok (.bipush (-2), 2) := by decide +kernel
theorem dX11_bore_44 : decode cX11_bore 44 = .ok (.ireturn, 1) := by decide +kernel
theorem dX11_bore_45 : decode cX11_bore 45 = .ok (.aload_n 0, 1) := by decide +kernel
theorem dX11_bore_46 : decode cX11_bore 46 = .ok (.getfield 52, 3) := by decide +kernel
theorem dX11_bore_49 : decode cX11_bore 49 = .ok (.getfield 148, 3) := by decide +kernel
theorem dX11_bore_52 : decode cX11_bore 52 = .ok (.aload_n 0, 1) := by decide +kernel
theorem dX11_bore_53 : decode cX11_bore 53 = .ok (.getfield 52, 3) := by decide +kernel
theorem dX11_bore_56 : decode cX11_bore 56 = .ok (.getfield 145, 3) := by decide +kernel
theorem dX11_bore_59 : decode cX11_bore 59 = .ok (.aaload, 1) := by decide +kernel
theorem dX11_bore_60 : decode cX11_bore 60 = .ok (.astore 4, 2) := by decide +kernel
theorem dX11_bore_62 : decode cX11_bore 62 = .ok (.aload_n 0, 1) := by decide +kernel
theorem dX11_bore_63 : decode cX11_bore 63 = .ok (.getfield 18, 3) := by decide +kernel
theorem dX11_bore_66 : decode cX11_bore 66 = .ok (.iload_n 1, 1) := by decide +kernel
theorem dX11_bore_67 : decode cX11_bore 67 = .ok (.invokevirtual 111, 3) := by decide +kernel
theorem dX11_bore_70 : decode cX11_bore 70 = .ok (.aload 4, 2) := by decide +kernel
theorem dX11_bore_72 : decode cX11_bore 72 = .ok (.aload_n 0, 1) := by decide +kernel
theorem dX11_bore_73 : decode cX11_bore 73 = .ok (.getfield 18, 3) := by decide +kernel
theorem dX11_bore_76 : decode cX11_bore 76 = .ok (.invokevirtual 152, 3) := by decide +kernel
theorem dX11_bore_79 : decode cX11_bore 79 = .ok (.istore 5, 2) := by decide +kernel
theorem dX11_bore_81 : decode cX11_bore 81 = .ok (.aload_n 0, 1) := by decide +kernel
theorem dX11_bore_82 : decode cX11_bore 82 = .ok (.invokevirtual 118, 3) := by decide +kernel
theorem dX11_bore_85 : decode cX11_bore 85 = .ok (.iload 5, 2) := by decide +kernel
theorem dX11_bore_87 : decode cX11_bore 87 = .ok (.ifCond .ne 5, 3) := by decide +kernel
theorem dX11_bore_90 : decode cX11_bore 90 = .ok (.iconst (-1), 1) := by decide +kernel
theorem dX11_bore_91 : decode cX11_bore 91 = .ok (.ireturn, 1) := by decide +kernel
theorem dX11_bore_92 : decode cX11_bore 92 = .ok (.aload 4, 2) := by decide +kernel
theorem dX11_bore_94 : decode cX11_bore 94 = .ok (.iconst (-1), 1) := by decide +kernel
theorem dX11_bore_95 : decode cX11_bore 95 = .ok (.putfield 158, 3) := by decide +kernel
theorem dX11_bore_98 : decode cX11_bore 98 = .ok (.aload 4, 2) := by decide +kernel
