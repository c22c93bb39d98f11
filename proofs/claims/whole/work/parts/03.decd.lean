theorem dX12_wordAt_15 : decode cX12_wordAt 15 = .ok (.iconst 0, 1) := by decide +kernel
theorem dX12_wordAt_16 : decode cX12_wordAt 16 = .ok (.istore 5, 2) := by decide +kernel
theorem dX12_wordAt_18 : decode cX12_wordAt 18 = .ok (.aload_n 0, 1) := by decide +kernel
theorem dX12_wordAt_19 : decode cX12_wordAt 19 = .ok (.getfield 53, 3) := by decide +kernel
theorem dX12_wordAt_22 : decode cX12_wordAt 22 = .ok (.iload 4, 2) := by decide +kernel
theorem dX12_wordAt_24 : decode cX12_wordAt 24 = .ok (.iload 5, 2) := by decide +kernel
theorem dX12_wordAt_26 : decode cX12_wordAt 26 = .ok (.iadd, 1) := by decide +kernel
theorem dX12_wordAt_27 : decode cX12_wordAt 27 = .ok (.iaload, 1) := by decide +kernel
theorem dX12_wordAt_28 : decode cX12_wordAt 28 = .ok (.bipush 32, 2) := by decide +kernel
theorem dX12_wordAt_30 : decode cX12_wordAt 30 = .ok (.if_icmp .eq 9, 3) := by decide +kernel
theorem dX12_wordAt_33 : decode cX12_wordAt 33 = .ok (.iinc 5 1, 3) := by decide +kernel
theorem dX12_wordAt_36 : decode cX12_wordAt 36 = .ok (.goto (-18), 3) := by decide +kernel
theorem dX12_wordAt_39 : decode cX12_wordAt 39 = .ok (.iload 5, 2) := by decide +kernel
theorem dX12_wordAt_41 : decode cX12_wordAt 41 = .ok (.iload_n 2, 1) := by decide +kernel
theorem dX12_wordAt_42 : decode cX12_wordAt 42 = .ok (.iload_n 1, 1) := by decide +kernel
theorem dX12_wordAt_43 : decode cX12_wordAt 43 = .ok (.isub, 1) := by decide +kernel
theorem dX12_wordAt_44 : decode cX12_wordAt 44 = .ok (.if_icmp .ne 7, 3) := by decide +kernel
theorem dX12_wordAt_47 : decode cX12_wordAt 47 = .ok (.iconst 1, 1) := by decide +kernel
theorem dX12_wordAt_48 : decode cX12_wordAt 48 = .ok (.goto 4, 3) := by decide +kernel
theorem dX12_wordAt_51 : decode cX12_wordAt 51 = .ok (.iconst 0, 1) := by decide +kernel
theorem dX12_wordAt_52 : decode cX12_wordAt 52 = .ok (.istore 6, 2) := by decide +kernel
theorem dX12_wordAt_54 : decode cX12_wordAt 54 = .ok (.iconst 0, 1) := by decide +kernel
theorem dX12_wordAt_55 : decode cX12_wordAt 55 = .ok (.istore 7, 2) := by decide +kernel
theorem dX12_wordAt_57 : decode cX12_wordAt 57 = .ok (.iload 7, 2) := by decide +kernel
theorem dX12_wordAt_59 : decode cX12_wordAt 59 = .ok (.iload 5, 2) := by decide +kernel
theorem dX12_wordAt_61 : decode cX12_wordAt 61 = .ok (.if_icmp .ge 43, 3) := by decide +kernel
theorem dX12_wordAt_64 : decode cX12_wordAt 64 = .ok (.iload 6, 2) := by decide +kernel
theorem dX12_wordAt_66 : decode cX12_wordAt 66 = .ok (.ifCond .eq 38, 3) := by decide +kernel
theorem dX12_wordAt_69 : decode cX12_wordAt 69 = .ok (.aload_n 0, 1) := by decide +kernel
theorem dX12_wordAt_70 : decode cX12_wordAt 70 = .ok (.getfield 53, 3) := by decide +kernel
theorem dX12_wordAt_73 : decode cX12_wordAt 73 = .ok (.iload 4, 2) := by decide +kernel
theorem dX12_wordAt_75 : decode cX12_wordAt 75 = .ok (.iload 7, 2) := by decide +kernel
theorem dX12_wordAt_77 : decode cX12_wordAt 77 = .ok (.iadd, 1) := by decide +kernel
theorem dX12_wordAt_78 : decode cX12_wordAt 78 = .ok (.iaload, 1) := by decide +kernel
theorem dX12_wordAt_79 : decode cX12_wordAt 79 = .ok (.aload_n 0, 1) := by decide +kernel
theorem dX12_wordAt_80 : decode cX12_wordAt 80 = .ok (.getfield 7, 3) := by decide +kernel
theorem dX12_wordAt_83 : decode cX12_wordAt 83 = .ok (.iload_n 1, 1) := by decide +kernel
theorem dX12_wordAt_84 : decode cX12_wordAt 84 = .ok (.iload 7, 2) := by decide +kernel
theorem dX12_wordAt_86 : decode cX12_wordAt 86 = .ok (.iadd, 1) := by decide +kernel
theorem dX12_wordAt_87 : decode cX12_wordAt 87 = .ok (.iaload, 1) := by decide +kernel
theorem dX12_wordAt_88 : decode cX12_wordAt 88 = .ok (.if_icmp .ne 7, 3) := by decide +kernel
theorem dX12_wordAt_91 : decode cX12_wordAt 91 = .ok (.iconst 1, 1) := by decide +kernel
theorem dX12_wordAt_92 : decode cX12_wordAt 92 = .ok (.goto 4, 3) := by decide +kernel
theorem dX12_wordAt_95 : decode cX12_wordAt 95 = .ok (.iconst 0, 1) := by decide +kernel
theorem dX12_wordAt_96 : decode cX12_wordAt 96 = .ok (.istore 6, 2) := by decide +kernel
theorem dX12_wordAt_98 : decode cX12_wordAt 98 = .ok (.iinc 7 1, 3) := by decide +kernel
theorem dX12_wordAt_101 : decode cX12_wordAt 101 = .ok (.goto (-44), 3) := by decide +kernel
theorem dX12_wordAt_104 : decode cX12_wordAt 104 = .ok (.iload 6, 2) := by decide +kernel
theorem dX12_wordAt_106 : decode cX12_wordAt 106 = .ok (.ifCond .eq 5, 3) := by decide +kernel
theorem dX12_wordAt_109 : decode cX12_wordAt 109 = .ok (.iload_n 3, 1) := by decide +kernel
theorem dX12_wordAt_110 : decode cX12_wordAt 110 = .ok (.ireturn, 1) := by decide +kernel
theorem dX12_wordAt_111 : decode cX12_wordAt 111 = .ok (.iload 4, 2) := by decide +kernel
theorem dX12_wordAt_113 : decode cX12_wordAt 113 = .ok (.iload 5, 2) := by decide +kernel
theorem dX12_wordAt_115 : decode cX12_wordAt 115 = .ok (.iconst 1, 1) := by decide +kernel
theorem dX12_wordAt_116 : decode cX12_wordAt 116 = .ok (.iadd, 1) := by decide +kernel
theorem dX12_wordAt_117 : decode cX12_wordAt 117 = .ok (.iadd, 1) := by decide +kernel
theorem dX12_wordAt_118 : decode cX12_wordAt 118 = .ok (.istore 4, 2) := by decide +kernel
theorem dX12_wordAt_120 : decode cX12_wordAt 120 = .ok (.iinc 3 1, 3) := by decide +kernel
theorem dX12_wordAt_123 : decode cX12_wordAt 123 = .ok (.goto (-118), 3) := by decide +kernel
theorem dX12_wordAt_126 : decode cX12_wordAt 126 = .ok (.iconst (-1), 1) := by decide +kernel
theorem dX12_wordAt_127 : decode cX12_wordAt 127 = .ok (.ireturn, 1) := by decide +kernel
theorem dX12_isSmall_0 : decode cX12_isSmall 0 = .ok (.iload_n 1, 1) := by decide +kernel
theorem dX12_isSmall_1 : decode cX12_isSmall 1 = .ok (.aload_n 0, 1) := by decide +kernel
theorem dX12_isSmall_2 : decode cX12_isSmall 2 = .ok (.getfield 190, 3) := by decide +kernel
theorem dX12_isSmall_5 : decode cX12_isSmall 5 = .ok (.if_icmp .ge 29, 3) := by decide +kernel
theorem dX12_isSmall_8 : decode cX12_isSmall 8 = .ok (.aload_n 0, 1) := by decide +kernel
theorem dX12_isSmall_9 : decode cX12_isSmall 9 = .ok (.getfield 7, 3) := by decide +kernel
theorem dX12_isSmall_12 : decode cX12_isSmall 12 = .ok (.iload_n 1, 1) := by decide +kernel
theorem dX12_isSmall_13 : decode cX12_isSmall 13 = .ok (.iaload, 1) := by decide +kernel
theorem dX12_isSmall_14 : decode cX12_isSmall 14 = .ok (.bipush 97, 2) := by decide +kernel
theorem dX12_isSmall_16 : decode cX12_isSmall 16 = .ok (.if_icmp .lt 18, 3) := by decide +kernel
theorem dX12_isSmall_19 : decode cX12_isSmall 19 = .ok (.aload_n 0, 1) := by decide +kernel
theorem dX12_isSmall_20 : decode cX12_isSmall 20 = .ok (.getfield 7, 3) := by decide +kernel
theorem dX12_isSmall_23 : decode cX12_isSmall 23 = .ok (.iload_n 1, 1) := by decide +kernel
theorem dX12_isSmall_24 : decode cX12_isSmall 24 = .ok (.iaload, 1) := by decide +kernel
theorem dX12_isSmall_25 : decode cX12_isSmall 25 = .ok (.bipush 122, 2) := by decide +kernel
theorem dX12_isSmall_27 : decode cX12_isSmall 27 = .ok (.if_icmp .gt 7, 3) := by decide +kernel
theorem dX12_isSmall_30 : decode cX12_isSmall 30 = .ok (.iconst 1, 1) := by decide +kernel
theorem dX12_isSmall_31 : decode cX12_isSmall 31 = .ok (.goto 4, 3) := by decide +kernel
theorem dX12_isSmall_34 : decode cX12_isSmall 34 = .ok (.iconst 0, 1) := by decide +kernel
theorem dX12_isSmall_35 : decode cX12_isSmall 35 = .ok (.ireturn, 1) := by decide +kernel
theorem dX12_isDigit_0 : decode cX12_isDigit 0 = .ok (.iload_n 1, 1) := by decide +kernel
theorem dX12_isDigit_1 : decode cX12_isDigit 1 = .ok (.aload_n 0, 1) := by decide +kernel
theorem dX12_isDigit_2 : decode cX12_isDigit 2 = .ok (.getfield 190, 3) := by decide +kernel
theorem dX12_isDigit_5 : decode cX12_isDigit 5 = .ok (.if_icmp .ge 29, 3) := by decide +kernel
theorem dX12_isDigit_8 : decode cX12_isDigit 8 = .ok (.aload_n 0, 1) := by decide +kernel
theorem dX12_isDigit_9 : decode cX12_isDigit 9 = .ok (.getfield 7, 3) := by decide +kernel
theorem dX12_isDigit_12 : decode cX12_isDigit 12 = .ok (.iload_n 1, 1) := by decide +kernel
theorem dX12_isDigit_13 : decode cX12_isDigit 13 = .ok (.iaload, 1) := by decide +kernel
theorem dX12_isDigit_14 : decode cX12_isDigit 14 = .ok (.bipush 48, 2) := by decide +kernel
theorem dX12_isDigit_16 : decode cX12_isDigit 16 = .ok (.if_icmp .lt 18, 3) := by decide +kernel
theorem dX12_isDigit_19 : decode cX12_isDigit 19 = .ok (.aload_n 0, 1) := by decide +kernel
theorem dX12_isDigit_20 : decode cX12_isDigit 20 = .ok (.getfield 7, 3) := by decide +kernel
theorem dX12_isDigit_23 : decode cX12_isDigit 23 = .ok (.iload_n 1, 1) := by decide +kernel
theorem dX12_isDigit_24 : decode cX12_isDigit 24 = .ok (.iaload, 1) := by decide +kernel
theorem dX12_isDigit_25 : decode cX12_isDigit 25 = .ok (.bipush 57, 2) := by decide +kernel
theorem dX12_isDigit_27 : decode cX12_isDigit 27 = .ok (.if_icmp .gt 7, 3) := by decide +kernel
theorem dX12_isDigit_30 : decode cX12_isDigit 30 = .ok (.iconst 1, 1) := by decide +kernel
theorem dX12_isDigit_31 : decode cX12_isDigit 31 = .ok (.goto 4, 3) := by decide +kernel
theorem dX12_isDigit_34 : decode cX12_isDigit 34 = .ok (.iconst 0, 1) := by decide +kernel
theorem dX12_isDigit_35 : decode cX12_isDigit 35 = .ok (.ireturn, 1) := by decide +kernel
theorem dX12_isEqual_0 : decode cX12_isEqual 0 = .ok (.iload_n 1, 1) := by decide +kernel
theorem dX12_isEqual_1 : decode cX12_isEqual 1 = .ok (.aload_n 0, 1) := by decide +kernel
theorem dX12_isEqual_2 : decode cX12_isEqual 2 = .ok (.getfield 190, 3) := by decide +kernel
theorem dX12_isEqual_5 : decode cX12_isEqual 5 = .ok (.if_icmp .ge 18, 3) := by decide +kernel
theorem dX12_isEqual_8 : decode cX12_isEqual 8 = .ok (.aload_n 0, 1) := by decide +kernel
theorem dX12_isEqual_9 : decode cX12_isEqual 9 = .ok (.getfield 7, 3) := by decide +kernel
theorem dX12_isEqual_12 : decode cX12_isEqual 12 = .ok (.iload_n 1, 1) := by decide +kernel
theorem dX12_isEqual_13 : decode cX12_isEqual 13 = .ok (.iaload, 1) := by decide +kernel
theorem dX12_isEqual_14 : decode cX12_isEqual 14 = .ok (.bipush 61, 2) := by decide +kernel
theorem dX12_isEqual_16 : decode cX12_isEqual 16 = .ok (.if_icmp .ne 7, 3) := by decide +kernel
theorem dX12_isEqual_19 : decode cX12_isEqual 19 = .ok (.iconst 1, 1) := by decide +kernel
theorem dX12_isEqual_20 : decode cX12_isEqual 20 = .ok (.goto 4, 3) := by decide +kernel
theorem dX12_isEqual_23 : decode cX12_isEqual 23 = .ok (.iconst 0, 1) := by decide +kernel
theorem dX12_isEqual_24 : decode cX12_isEqual 24 = .ok (.ireturn, 1) := by decide +kernel
theorem dX12_signOf_0 : decode cX12_signOf 0 = .ok (.iload_n 1, 1) := by decide +kernel
theorem dX12_signOf_1 : decode cX12_signOf 1 = .ok (.bipush 60, 2) := by decide +kernel
theorem dX12_signOf_3 : decode cX12_signOf 3 = .ok (.if_icmp .ne 20, 3) := by decide +kernel
theorem dX12_signOf_6 : decode cX12_signOf 6 = .ok (.aload_n 0, 1) := by decide +kernel
theorem dX12_signOf_7 : decode cX12_signOf 7 = .ok (.aload_n 0, 1) := by decide +kernel
theorem dX12_signOf_8 : decode cX12_signOf 8 = .ok (.getfield 193, 3) := by decide +kernel
theorem dX12_signOf_11 : decode cX12_signOf 11 = .ok (.invokevirtual 196, 3) := by decide +kernel
theorem dX12_signOf_14 : decode cX12_signOf 14 = .ok (.ifCond .eq 7, 3) := by decide +kernel
theorem dX12_signOf_17 : decode cX12_signOf 17 = .ok (.iconst 2, 1) := by decide +kernel
theorem dX12_signOf_18 : decode cX12_signOf 18 = .ok (.goto 4, 3) := by decide +kernel
theorem dX12_signOf_21 : decode cX12_signOf 21 = .ok (.iconst 1, 1) := by decide +kernel
theorem dX12_signOf_22 : decode cX12_signOf 22 = .ok (.ireturn, 1) := by decide +kernel
theorem dX12_signOf_23 : decode cX12_signOf 23 = .ok (.iload_n 1, 1) := by decide +kernel
theorem dX12_signOf_24 : decode cX12_signOf 24 = .ok (.bipush 62, 2) := by decide +kernel
theorem dX12_signOf_26 : decode cX12_signOf 26 = .ok (.if_icmp .ne 20, 3) := by decide +kernel
theorem dX12_signOf_29 : decode cX12_signOf 29 = .ok (.aload_n 0, 1) := by decide +kernel
theorem dX12_signOf_30 : decode cX12_signOf 30 = .ok (.aload_n 0, 1) := by decide +kernel
theorem dX12_signOf_31 : decode cX12_signOf 31 = .ok (.getfield 193, 3) := by decide +kernel
theorem dX12_signOf_34 : decode cX12_signOf 34 = .ok (.invokevirtual 196, 3) := by decide +kernel
theorem dX12_signOf_37 : decode cX12_signOf 37 = .ok (.ifCond .eq 7, 3) := by decide +kernel
theorem dX12_signOf_40 : decode cX12_signOf 40 = .ok (.iconst 4, 1) := by decide +kernel
theorem dX12_signOf_41 : decode cX12_signOf 41 = .ok (.goto 4, 3) := by decide +kernel
theorem dX12_signOf_44 : decode cX12_signOf 44 = .ok (.iconst 5, 1) := by decide +kernel
theorem dX12_signOf_45 : decode cX12_signOf 45 = .ok (.ireturn, 1) := by decide +kernel
theorem dX12_signOf_46 : decode cX12_signOf 46 = .ok (.iload_n 1, 1) := by decide +kernel
theorem dX12_signOf_47 : decode cX12_signOf 47 = .ok (.bipush 61, 2) := by decide +kernel
theorem dX12_signOf_49 : decode cX12_signOf 49 = .ok (.if_icmp .ne 7, 3) := by decide +kernel
theorem dX12_signOf_52 : decode cX12_signOf 52 = .ok (.iconst 3, 1) := by decide +kernel
theorem dX12_signOf_53 : decode cX12_signOf 53 = .ok (.goto 38, 3) := by decide +kernel
theorem dX12_signOf_56 : decode cX12_signOf 56 = .ok (.iload_n 1, 1) := by decide +kernel
theorem dX12_signOf_57 : decode cX12_signOf 57 = .ok (.bipush 45, 2) := by decide +kernel
theorem dX12_signOf_59 : decode cX12_signOf 59 = .ok (.if_icmp .eq 27, 3) := by decide +kernel
theorem dX12_signOf_62 : decode cX12_signOf 62 = .ok (.iload_n 1, 1) := by decide +kernel
theorem dX12_signOf_63 : decode cX12_signOf 63 = .ok (.bipush 59, 2) := by decide +kernel
theorem dX12_signOf_65 : decode cX12_signOf 65 = .ok (.if_icmp .eq 21, 3) := by decide +kernel
theorem dX12_signOf_68 : decode cX12_signOf 68 = .ok (.iload_n 1, 1) := by decide +kernel
theorem dX12_signOf_69 : decode cX12_signOf 69 = .ok (.bipush 58, 2) := by decide +kernel
theorem dX12_signOf_71 : decode cX12_signOf 71 = .ok (.if_icmp .eq 15, 3) := by decide +kernel
theorem dX12_signOf_74 : decode cX12_signOf 74 = .ok (.iload_n 1, 1) := by decide +kernel
theorem dX12_signOf_75 : decode cX12_signOf 75 = .ok (.bipush 40, 2) := by decide +kernel
theorem dX12_signOf_77 : decode cX12_signOf 77 = .ok (.if_icmp .eq 9, 3) := by decide +kernel
theorem dX12_signOf_80 : decode cX12_signOf 80 = .ok (.iload_n 1, 1) := by decide +kernel
theorem dX12_signOf_81 : decode cX12_signOf 81 = .ok (.bipush 41, 2) := by decide +kernel
theorem dX12_signOf_83 : decode cX12_signOf 83 = .ok (.if_icmp .ne 7, 3) := by decide +kernel
theorem dX12_signOf_86 : decode cX12_signOf 86 = .ok (.iload_n 1, 1) := by decide +kernel
theorem dX12_signOf_87 : decode cX12_signOf 87 = .ok (.goto 4, 3) := by decide +kernel
theorem dX12_signOf_90 : decode cX12_signOf 90 = .ok (.iconst (-1), 1) := by decide +kernel
theorem dX12_signOf_91 : decode cX12_signOf 91 = .ok (.ireturn, 1) := by decide +kernel
theorem dX12_take_0 : decode cX12_take 0 = .ok (.aload_n 0, 1) := by decide +kernel
theorem dX12_take_1 : decode cX12_take 1 = .ok (.getfield 193, 3) := by decide +kernel
theorem dX12_take_4 : decode cX12_take 4 = .ok (.aload_n 0, 1) := by decide +kernel
theorem dX12_take_5 : decode cX12_take 5 = .ok (.getfield 190, 3) := by decide +kernel
theorem dX12_take_8 : decode cX12_take 8 = .ok (.if_icmp .ge 44, 3) := by decide +kernel
theorem dX12_take_11 : decode cX12_take 11 = .ok (.aload_n 0, 1) := by decide +kernel
theorem dX12_take_12 : decode cX12_take 12 = .ok (.getfield 7, 3) := by decide +kernel
theorem dX12_take_15 : decode cX12_take 15 = .ok (.aload_n 0, 1) := by decide +kernel
theorem dX12_take_16 : decode cX12_take 16 = .ok (.getfield 193, 3) := by decide +kernel
theorem dX12_take_19 : decode cX12_take 19 = .ok (.iaload, 1) := by decide +kernel
theorem dX12_take_20 : decode cX12_take 20 = .ok (.bipush 10, 2) := by decide +kernel
theorem dX12_take_22 : decode cX12_take 22 = .ok (.if_icmp .eq 17, 3) := by decide +kernel
theorem dX12_take_25 : decode cX12_take 25 = .ok (.aload_n 0, 1) := by decide +kernel
theorem dX12_take_26 : decode cX12_take 26 = .ok (.getfield 7, 3) := by decide +kernel
theorem dX12_take_29 : decode cX12_take 29 = .ok (.aload_n 0, 1) := by decide +kernel
theorem dX12_take_30 : decode cX12_take 30 = .ok (.getfield 193, 3) := by decide +kernel
theorem dX12_take_33 : decode cX12_take 33 = .ok (.iaload, 1) := by decide +kernel
theorem dX12_take_34 : decode cX12_take 34 = .ok (.bipush 32, 2) := by decide +kernel
theorem dX12_take_36 : decode cX12_take 36 = .ok (.if_icmp .ne 16, 3) := by decide +kernel
theorem dX12_take_39 : decode cX12_take 39 = .ok (.aload_n 0, 1) := by decide +kernel
theorem dX12_take_40 : decode cX12_take 40 = .ok (.dup, 1) := by decide +kernel
theorem dX12_take_41 : decode cX12_take 41 = .ok (.getfield 193, 3) := by decide +kernel
theorem dX12_take_44 : decode cX12_take 44 = .ok (.iconst 1, 1) := by decide +kernel
theorem dX12_take_45 : decode cX12_take 45 = .ok (.iadd, 1) := by decide +kernel
theorem dX12_take_46 : decode cX12_take 46 = .ok (.putfield 193, 3) := by decide +kernel
theorem dX12_take_49 : decode cX12_take 49 = .ok (.goto (-49), 3) := by decide +kernel
theorem dX12_take_52 : decode cX12_take 52 = .ok (.aload_n 0, 1) := by decide +kernel
theorem dX12_take_53 : decode cX12_take 53 = .ok (.aload_n 0, 1) := by decide +kernel
theorem dX12_take_54 : decode cX12_take 54 = .ok (.getfield 193, 3) := by decide +kernel
theorem dX12_take_57 : decode cX12_take 57 = .ok (.putfield 187, 3) := by decide +kernel
theorem dX12_take_60 : decode cX12_take 60 = .ok (.aload_n 0, 1) := by decide +kernel
theorem dX12_take_61 : decode cX12_take 61 = .ok (.getfield 193, 3) := by decide +kernel
theorem dX12_take_64 : decode cX12_take 64 = .ok (.aload_n 0, 1) := by decide +kernel
theorem dX12_take_65 : decode cX12_take 65 = .ok (.getfield 190, 3) := by decide +kernel
theorem dX12_take_68 : decode cX12_take 68 = .ok (.if_icmp .ne 11, 3) := by decide +kernel
theorem dX12_take_71 : decode cX12_take 71 = .ok (.aload_n 0, 1) := by decide +kernel
theorem dX12_take_72 : decode cX12_take 72 = .ok (.iconst 0, 1) := by decide +kernel
theorem dX12_take_73 : decode cX12_take 73 = .ok (.putfield 199, 3) := by decide +kernel
theorem dX12_take_76 : decode cX12_take 76 = .ok (.goto 248, 3) := by decide +kernel
theorem dX12_take_79 : decode cX12_take 79 = .ok (.aload_n 0, 1) := by decide +kernel
theorem dX12_take_80 : decode cX12_take 80 = .ok (.aload_n 0, 1) := by decide +kernel
theorem dX12_take_81 : decode cX12_take 81 = .ok (.getfield 193, 3) := by decide +kernel
theorem dX12_take_84 : decode cX12_take 84 = .ok (.invokevirtual 202, 3) := by decide +kernel
theorem dX12_take_87 : decode cX12_take 87 = .ok (.ifCond .eq 80, 3) := by decide +kernel
theorem dX12_take_90 : decode cX12_take 90 = .ok (.aload_n 0, 1) := by decide +kernel
theorem dX12_take_91 : decode cX12_take 91 = .ok (.aload_n 0, 1) := by decide +kernel
theorem dX12_take_92 : decode cX12_take 92 = .ok (.getfield 193, 3) := by decide +kernel
theorem dX12_take_95 : decode cX12_take 95 = .ok (.invokevirtual 202, 3) := by decide +kernel
theorem dX12_take_98 : decode cX12_take 98 = .ok (.ifCond .eq 16, 3) := by decide +kernel
theorem dX12_take_101 : decode cX12_take 101 = .ok (.aload_n 0, 1) := by decide +kernel
theorem dX12_take_102 : decode cX12_take 102 = .ok (.dup, 1) := by decide +kernel
theorem dX12_take_103 : decode cX12_take 103 = .ok (.getfield 193, 3) := by decide +kernel
theorem dX12_take_106 : decode cX12_take 106 = .ok (.iconst 1, 1) := by decide +kernel
theorem dX12_take_107 : decode cX12_take 107 = .ok (.iadd, 1) := by decide +kernel
theorem dX12_take_108 : decode cX12_take 108 = .ok (.putfield 193, 3) := by decide +kernel
theorem dX12_take_111 : decode cX12_take 111 = .ok (.goto (-21), 3) := by decide +kernel
theorem dX12_take_114 : decode cX12_take 114 = .ok (.aload_n 0, 1) := by decide +kernel
theorem dX12_take_115 : decode cX12_take 115 = .ok (.aload_n 0, 1) := by decide +kernel
theorem dX12_take_116 : decode cX12_take 116 = .ok (.aload_n 0, 1) := by decide +kernel
theorem dX12_take_117 : decode cX12_take 117 = .ok (.getfield 187, 3) := by decide +kernel
theorem dX12_take_120 : decode cX12_take 120 = .ok (.aload_n 0, 1) := by decide +kernel
theorem dX12_take_121 : decode cX12_take 121 = .ok (.getfield 193, 3) := by decide +kernel
theorem dX12_take_124 : decode cX12_take 124 = .ok (.invokevirtual 205, 3) := by decide +kernel
theorem dX12_take_127 : decode cX12_take 127 = .ok (.putfield 209, 3) := by decide +kernel
theorem dX12_take_130 : decode cX12_take 130 = .ok (.aload_n 0, 1) := by decide +kernel
theorem dX12_take_131 : decode cX12_take 131 = .ok (.aload_n 0, 1) := by decide +kernel
theorem dX12_take_132 : decode cX12_take 132 = .ok (.getfield 209, 3) := by decide +kernel
theorem dX12_take_135 : decode cX12_take 135 = .ok (.ifCond .lt 7, 3) := by decide +kernel
theorem dX12_take_138 : decode cX12_take 138 = .ok (.iconst 1, 1) := by decide +kernel
theorem dX12_take_139 : decode cX12_take 139 = .ok (.goto 22, 3) := by decide +kernel
theorem dX12_take_142 : decode cX12_take 142 = .ok (.aload_n 0, 1) := by decide +kernel
theorem dX12_take_143 : decode cX12_take 143 = .ok (.getfield 193, 3) := by decide +kernel
theorem dX12_take_146 : decode cX12_take 146 = .ok (.aload_n 0, 1) := by decide +kernel
theorem dX12_take_147 : decode cX12_take 147 = .ok (.getfield 187, 3) := by decide +kernel
theorem dX12_take_150 : decode cX12_take 150 = .ok (.isub, 1) := by decide +kernel
theorem dX12_take_151 : decode cX12_take 151 = .ok (.bipush 8, 2) := by decide +kernel
theorem dX12_take_153 : decode cX12_take 153 = .ok (.if_icmp .le 7, 3) := by decide +kernel
theorem dX12_take_156 : decode cX12_take 156 = .ok (.iconst 5, 1) := by decide +kernel
theorem dX12_take_157 : decode cX12_take 157 = .ok (.goto 4, 3) := by decide +kernel
theorem dX12_take_160 : decode cX12_take 160 = .ok (.iconst 2, 1) := by decide +kernel
theorem dX12_take_161 : decode cX12_take 161 = .ok (.putfield 199, 3) := by decide +kernel
theorem dX12_take_164 : decode cX12_take 164 = .ok (.goto 160, 3) := by decide +kernel
theorem dX12_take_167 : decode cX12_take 167 = .ok (.aload_n 0, 1) := by decide +kernel
theorem dX12_take_168 : decode cX12_take 168 = .ok (.aload_n 0, 1) := by decide +kernel
theorem dX12_take_169 : decode cX12_take 169 = .ok (.getfield 193, 3) := by decide +kernel
theorem dX12_take_172 : decode cX12_take 172 = .ok (.invokevirtual 212, 3) := by decide +kernel
theorem dX12_take_175 : decode cX12_take 175 = .ok (.ifCond .eq 78, 3) := by decide +kernel
theorem dX12_take_178 : decode cX12_take 178 = .ok (.aload_n 0, 1) := by decide +kernel
theorem dX12_take_179 : decode cX12_take 179 = .ok (.iconst 3, 1) := by decide +kernel
theorem dX12_take_180 : decode cX12_take 180 = .ok (.putfield 199, 3) := by decide +kernel
theorem dX12_take_183 : decode cX12_take 183 = .ok (.aload_n 0, 1) := by decide +kernel
theorem dX12_take_184 : decode cX12_take 184 = .ok (.iconst 0, 1) := by decide +kernel
theorem dX12_take_185 : decode cX12_take 185 = .ok (.putfield 209, 3) := by decide +kernel
theorem dX12_take_188 : decode cX12_take 188 = .ok (.aload_n 0, 1) := by decide +kernel
theorem dX12_take_189 : decode cX12_take 189 = .ok (.aload_n 0, 1) := by decide +kernel
theorem dX12_take_190 : decode cX12_take 190 = .ok (.getfield 193, 3) := by decide +kernel
theorem dX12_take_193 : decode cX12_take 193 = .ok (.invokevirtual 212, 3) := by decide +kernel
theorem dX12_take_196 : decode cX12_take 196 = .ok (.ifCond .eq 128, 3) := by decide +kernel
theorem dX12_take_199 : decode cX12_take 199 = .ok (.aload_n 0, 1) := by decide +kernel
theorem dX12_take_200 : decode cX12_take 200 = .ok (.aload_n 0, 1) := by decide +kernel
theorem dX12_take_201 : decode cX12_take 201 = .ok (.getfield 209, 3) := by decide +kernel
theorem dX12_take_204 : decode cX12_take 204 = .ok (.sipush 9999, 3) := by decide +kernel
theorem dX12_take_207 : decode cX12_take 207 = .ok (.if_icmp .le 10, 3) := by decide +kernel
theorem dX12_take_210 : decode cX12_take 210 = .ok (.aload_n 0, 1) := by decide +kernel
theorem dX12_take_211 : decode cX12_take 211 = .ok (.getfield 209, 3) := by decide +kernel
theorem dX12_take_214 : decode cX12_take 214 = .ok (.goto 23, 3) := by decide +kernel
theorem dX12_take_217 : decode cX12_take 217 = .ok (.bipush 10, 2) := by decide +kernel
theorem dX12_take_219 : decode cX12_take 219 = .ok (.aload_n 0, 1) := by decide +kernel
theorem dX12_take_220 : decode cX12_take 220 = .ok (.getfield 209, 3) := by decide +kernel
theorem dX12_take_223 : decode cX12_take 223 = .ok (.imul, 1) := by decide +kernel
theorem dX12_take_224 : decode cX12_take 224 = .ok (.aload_n 0, 1) := by decide +kernel
theorem dX12_take_225 : decode cX12_take 225 = .ok (.getfield 7, 3) := by decide +kernel
theorem dX12_take_228 : decode cX12_take 228 = .ok (.aload_n 0, 1) := by decide +kernel
theorem dX12_take_229 : decode cX12_take 229 = .ok (.getfield 193, 3) := by decide +kernel
theorem dX12_take_232 : decode cX12_take 232 = .ok (.iaload, 1) := by decide +kernel
theorem dX12_take_233 : decode cX12_take 233 = .ok (.iadd, 1) := by decide +kernel
theorem dX12_take_234 : decode cX12_take 234 = .ok (.bipush 48, 2) := by decide +kernel
theorem dX12_take_236 : decode cX12_take 236 = .ok (.isub, 1) := by decide +kernel
theorem dX12_take_237 : decode cX12_take 237 = .ok (.putfield 209, 3) := by decide +kernel
theorem dX12_take_240 : decode cX12_take 240 = .ok (.aload_n 0, 1) := by decide +kernel
theorem dX12_take_241 : decode cX12_take 241 = .ok (.dup, 1) := by decide +kernel
theorem dX12_take_242 : decode cX12_take 242 = .ok (.getfield 193, 3) := by decide +kernel
theorem dX12_take_245 : decode cX12_take 245 = .ok (.iconst 1, 1) := by decide +kernel
theorem dX12_take_246 : decode cX12_take 246 = .ok (.iadd, 1) := by decide +kernel
theorem dX12_take_247 : decode cX12_take 247 = .ok (.putfield 193, 3) := by decide +kernel
theorem dX12_take_250 : decode cX12_take 250 = .ok (.goto (-62), 3) := by decide +kernel
theorem dX12_take_253 : decode cX12_take 253 = .ok (.aload_n 0, 1) := by decide +kernel
theorem dX12_take_254 : decode cX12_take 254 = .ok (.getfield 7, 3) := by decide +kernel
theorem dX12_take_257 : decode cX12_take 257 = .ok (.aload_n 0, 1) := by decide +kernel
theorem dX12_take_258 : decode cX12_take 258 = .ok (.getfield 193, 3) := by decide +kernel
theorem dX12_take_261 : decode cX12_take 261 = .ok (.iaload, 1) := by decide +kernel
theorem dX12_take_262 : decode cX12_take 262 = .ok (.istore_n 1, 1) := by decide +kernel
theorem dX12_take_263 : decode cX12_take 263 = .ok (.aload_n 0, 1) := by decide +kernel
theorem dX12_take_264 : decode cX12_take 264 = .ok (.dup, 1) := by decide +kernel
theorem dX12_take_265 : decode cX12_take 265 = .ok (.getfield 193, 3) := by decide +kernel
theorem dX12_take_268 : decode cX12_take 268 = .ok (.iconst 1, 1) := by decide +kernel
theorem dX12_take_269 : decode cX12_take 269 = .ok (.iadd, 1) := by decide +kernel
theorem dX12_take_270 : decode cX12_take 270 = .ok (.putfield 193, 3) := by decide +kernel
theorem dX12_take_273 : decode cX12_take 273 = .ok (.aload_n 0, 1) := by decide +kernel
theorem dX12_take_274 : decode cX12_take 274 = .ok (.aload_n 0, 1) := by decide +kernel
theorem dX12_take_275 : decode cX12_take 275 = .ok (.iload_n 1, 1) := by decide +kernel
theorem dX12_take_276 : decode cX12_take 276 = .ok (.invokevirtual 215, 3) := by decide +kernel
theorem dX12_take_279 : decode cX12_take 279 = .ok (.putfield 209, 3) := by decide +kernel
theorem dX12_take_282 : decode cX12_take 282 = .ok (.aload_n 0, 1) := by decide +kernel
theorem dX12_take_283 : decode cX12_take 283 = .ok (.aload_n 0, 1) := by decide +kernel
theorem dX12_take_284 : decode cX12_take 284 = .ok (.getfield 209, 3) := by decide +kernel
theorem dX12_take_287 : decode cX12_take 287 = .ok (.ifCond .ge 7, 3) := by decide +kernel
theorem dX12_take_290 : decode cX12_take 290 = .ok (.iconst 5, 1) := by decide +kernel
theorem dX12_take_291 : decode cX12_take 291 = .ok (.goto 4, 3) := by decide +kernel
theorem dX12_take_294 : decode cX12_take 294 = .ok (.iconst 4, 1) := by decide +kernel
theorem dX12_take_295 : decode cX12_take 295 = .ok (.putfield 199, 3) := by decide +kernel
theorem dX12_take_298 : decode cX12_take 298 = .ok (.aload_n 0, 1) := by decide +kernel
theorem dX12_take_299 : decode cX12_take 299 = .ok (.getfield 209, 3) := by decide +kernel
theorem dX12_take_302 : decode cX12_take 302 = .ok (.iconst 2, 1) := by decide +kernel
theorem dX12_take_303 : decode cX12_take 303 = .ok (.if_icmp .eq 11, 3) := by decide +kernel
theorem dX12_take_306 : decode cX12_take 306 = .ok (.aload_n 0, 1) := by decide +kernel
theorem dX12_take_307 : decode cX12_take 307 = .ok (.getfield 209, 3) := by decide +kernel
theorem dX12_take_310 : decode cX12_take 310 = .ok (.iconst 4, 1) := by decide +kernel
theorem dX12_take_311 : decode cX12_take 311 = .ok (.if_icmp .ne 13, 3) := by decide +kernel
theorem dX12_take_314 : decode cX12_take 314 = .ok (.aload_n 0, 1) := by decide +kernel
theorem dX12_take_315 : decode cX12_take 315 = .ok (.dup, 1) := by decide +kernel
theorem dX12_take_316 : decode cX12_take 316 = .ok (.getfield 193, 3) := by decide +kernel
theorem dX12_take_319 : decode cX12_take 319 = .ok (.iconst 1, 1) := by decide +kernel
theorem dX12_take_320 : decode cX12_take 320 = .ok (.iadd, 1) := by decide +kernel
theorem dX12_take_321 : decode cX12_take 321 = .ok (.putfield 193, 3) := by decide +kernel
theorem dX12_take_324 : decode cX12_take 324 = .ok (.aload_n 0, 1) := by decide +kernel
theorem dX12_take_325 : decode cX12_take 325 = .ok (.aload_n 0, 1) := by decide +kernel
theorem dX12_take_326 : decode cX12_take 326 = .ok (.getfield 193, 3) := by decide +kernel
theorem dX12_take_329 : decode cX12_take 329 = .ok (.putfield 219, 3) := by decide +kernel
theorem dX12_take_332 : decode cX12_take 332 = .ok (.return_, 1) := by decide +kernel
theorem dX12_isSign_0 : decode cX12_isSign 0 = .ok (.aload_n 0, 1) := by decide +kernel
theorem dX12_isSign_1 : decode cX12_isSign 1 = .ok (.getfield 199, 3) := by decide +kernel
theorem dX12_isSign_4 : decode cX12_isSign 4 = .ok (.iconst 4, 1) := by decide +kernel
theorem dX12_isSign_5 : decode cX12_isSign 5 = .ok (.if_icmp .ne 15, 3) := by decide +kernel
theorem dX12_isSign_8 : decode cX12_isSign 8 = .ok (.aload_n 0, 1) := by decide +kernel
theorem dX12_isSign_9 : decode cX12_isSign 9 = .ok (.getfield 209, 3) := by decide +kernel
theorem dX12_isSign_12 : decode cX12_isSign 12 = .ok (.iload_n 1, 1) := by decide +kernel
theorem dX12_isSign_13 : decode cX12_isSign 13 = .ok (.if_icmp .ne 7, 3) := by decide +kernel
theorem dX12_isSign_16 : decode cX12_isSign 16 = .ok (.iconst 1, 1) := by decide +kernel
theorem dX12_isSign_17 : decode cX12_isSign 17 = .ok (.goto 4, 3) := by decide +kernel
theorem dX12_isSign_20 : decode cX12_isSign 20 = .ok (.iconst 0, 1) := by decide +kernel
theorem dX12_isSign_21 : decode cX12_isSign 21 = .ok (.ireturn, 1) := by decide +kernel
theorem dX12_isWord_0 : decode cX12_isWord 0 = .ok (.aload_n 0, 1) := by decide +kernel
theorem dX12_isWord_1 : decode cX12_isWord 1 = .ok (.getfield 199, 3) := by decide +kernel
theorem dX12_isWord_4 : decode cX12_isWord 4 = .ok (.iconst 1, 1) := by decide +kernel
theorem dX12_isWord_5 : decode cX12_isWord 5 = .ok (.if_icmp .ne 15, 3) := by decide +kernel
theorem dX12_isWord_8 : decode cX12_isWord 8 = .ok (.aload_n 0, 1) := by decide +kernel
theorem dX12_isWord_9 : decode cX12_isWord 9 = .ok (.getfield 209, 3) := by decide +kernel
theorem dX12_isWord_12 : decode cX12_isWord 12 = .ok (.iload_n 1, 1) := by decide +kernel
theorem dX12_isWord_13 : decode cX12_isWord 13 = .ok (.if_icmp .ne 7, 3) := by decide +kernel
theorem dX12_isWord_16 : decode cX12_isWord 16 = .ok (.iconst 1, 1) := by decide +kernel
theorem dX12_isWord_17 : decode cX12_isWord 17 = .ok (.goto 4, 3) := by decide +kernel
theorem dX12_isWord_20 : decode cX12_isWord 20 = .ok (.iconst 0, 1) := by decide +kernel
theorem dX12_isWord_21 : decode cX12_isWord 21 = .ok (.ireturn, 1) := by decide +kernel
theorem dX12_number_0 : decode cX12_number 0 = .ok (.aload_n 0, 1) := by decide +kernel
theorem dX12_number_1 : decode cX12_number 1 = .ok (.getfield 199, 3) := by decide +kernel
theorem dX12_number_4 : decode cX12_number 4 = .ok (.iconst 3, 1) := by decide +kernel
theorem dX12_number_5 : decode cX12_number 5 = .ok (.if_icmp .eq 9, 3) := by decide +kernel
theorem dX12_number_8 : decode cX12_number 8 = .ok (.aload_n 0, 1) := by decide +kernel
theorem dX12_number_9 : decode cX12_number 9 = .ok (.iconst 1, 1) := by decide +kernel
theorem dX12_number_10 : decode cX12_number 10 = .ok (.invokevirtual 222, 3) := by decide +kernel
theorem dX12_number_13 : decode cX12_number 13 = .ok (.ireturn, 1) := by decide +kernel
theorem dX12_number_14 : decode cX12_number 14 = .ok (.aload_n 0, 1) := by decide +kernel
theorem dX12_number_15 : decode cX12_number 15 = .ok (.getfield 209, 3) := by decide +kernel
theorem dX12_number_18 : decode cX12_number 18 = .ok (.iload_n 1, 1) := by decide +kernel
theorem dX12_number_19 : decode cX12_number 19 = .ok (.if_icmp .le 9, 3) := by decide +kernel
theorem dX12_number_22 : decode cX12_number 22 = .ok (.aload_n 0, 1) := by decide +kernel
theorem dX12_number_23 : decode cX12_number 23 = .ok (.iconst 2, 1) := by decide +kernel
theorem dX12_number_24 : decode cX12_number 24 = .ok (.invokevirtual 222, 3) := by decide +kernel
theorem dX12_number_27 : decode cX12_number 27 = .ok (.ireturn, 1) := by decide +kernel
theorem dX12_number_28 : decode cX12_number 28 = .ok (.aload_n 0, 1) := by decide +kernel
theorem dX12_number_29 : decode cX12_number 29 = .ok (.aload_n 0, 1) := by decide +kernel
theorem dX12_number_30 : decode cX12_number 30 = .ok (.getfield 209, 3) := by decide +kernel
theorem dX12_number_33 : decode cX12_number 33 = .ok (.putfield 225, 3) := by decide +kernel
theorem dX12_number_36 : decode cX12_number 36 = .ok (.aload_n 0, 1) := by decide +kernel
theorem dX12_number_37 : decode cX12_number 37 = .ok (.invokevirtual 228, 3) := by decide +kernel
theorem dX12_number_40 : decode cX12_number 40 = .ok (.iconst 1, 1) := by decide +kernel
theorem dX12_number_41 : decode cX12_number 41 = .ok (.ireturn, 1) := by decide +kernel
theorem dX12_begins_0 : decode cX12_begins 0 = .ok (.aload_n 0, 1) := by decide +kernel
theorem dX12_begins_1 : decode cX12_begins 1 = .ok (.iload_n 1, 1) := by decide +kernel
theorem dX12_begins_2 : decode cX12_begins 2 = .ok (.putfield 190, 3) := by decide +kernel
theorem dX12_begins_5 : decode cX12_begins 5 = .ok (.aload_n 0, 1) := by decide +kernel
theorem dX12_begins_6 : decode cX12_begins 6 = .ok (.iconst 0, 1) := by decide +kernel
theorem dX12_begins_7 : decode cX12_begins 7 = .ok (.putfield 177, 3) := by decide +kernel
theorem dX12_begins_10 : decode cX12_begins 10 = .ok (.aload_n 0, 1) := by decide +kernel
theorem dX12_begins_11 : decode cX12_begins 11 = .ok (.iconst 0, 1) := by decide +kernel
theorem dX12_begins_12 : decode cX12_begins 12 = .ok (.putfield 184, 3) := by decide +kernel
theorem dX12_begins_15 : decode cX12_begins 15 = .ok (.aload_n 0, 1) := by decide +kernel
theorem dX12_begins_16 : decode cX12_begins 16 = .ok (.iconst (-1), 1) := by decide +kernel
theorem dX12_begins_17 : decode cX12_begins 17 = .ok (.putfield 56, 3) := by decide +kernel
theorem dX12_begins_20 : decode cX12_begins 20 = .ok (.aload_n 0, 1) := by decide +kernel
theorem dX12_begins_21 : decode cX12_begins 21 = .ok (.iconst 0, 1) := by decide +kernel
theorem dX12_begins_22 : decode cX12_begins 22 = .ok (.putfield 193, 3) := by decide +kernel
theorem dX12_begins_25 : decode cX12_begins 25 = .ok (.aload_n 0, 1) := by decide +kernel
theorem dX12_begins_26 : decode cX12_begins 26 = .ok (.invokevirtual 228, 3) := by decide +kernel
theorem dX12_begins_29 : decode cX12_begins 29 = .ok (.return_, 1) := by decide +kernel
theorem dX12_layerRead_0 : decode cX12_layerRead 0 = .ok (.aload_n 0, 1) := by decide +kernel
theorem dX12_layerRead_1 : decode cX12_layerRead 1 = .ok (.getfield 199, 3) := by decide +kernel
theorem dX12_layerRead_4 : decode cX12_layerRead 4 = .ok (.iconst 3, 1) := by decide +kernel
theorem dX12_layerRead_5 : decode cX12_layerRead 5 = .ok (.if_icmp .ne 23, 3) := by decide +kernel
theorem dX12_layerRead_8 : decode cX12_layerRead 8 = .ok (.aload_n 0, 1) := by decide +kernel
theorem dX12_layerRead_9 : decode cX12_layerRead 9 = .ok (.getfield 68, 3) := by decide +kernel
theorem dX12_layerRead_12 : decode cX12_layerRead 12 = .ok (.aload_n 0, 1) := by decide +kernel
theorem dX12_layerRead_13 : decode cX12_layerRead 13 = .ok (.getfield 174, 3) := by decide +kernel
theorem dX12_layerRead_16 : decode cX12_layerRead 16 = .ok (.iaload, 1) := by decide +kernel
theorem dX12_layerRead_17 : decode cX12_layerRead 17 = .ok (.bipush 8, 2) := by decide +kernel
theorem dX12_layerRead_19 : decode cX12_layerRead 19 = .ok (.if_icmp .ne 9, 3) := by decide +kernel
theorem dX12_layerRead_22 : decode cX12_layerRead 22 = .ok (.aload_n 0, 1) := by decide +kernel
theorem dX12_layerRead_23 : decode cX12_layerRead 23 = .ok (.iconst 2, 1) := by decide +kernel
theorem dX12_layerRead_24 : decode cX12_layerRead 24 = .ok (.invokevirtual 222, 3) := by decide +kernel
theorem dX12_layerRead_27 : decode cX12_layerRead 27 = .ok (.ireturn, 1) := by decide +kernel
theorem dX12_layerRead_28 : decode cX12_layerRead 28 = .ok (.bipush 48, 2) := by decide +kernel
theorem dX12_layerRead_30 : decode cX12_layerRead 30 = .ok (.aload_n 0, 1) := by decide +kernel
theorem dX12_layerRead_31 : decode cX12_layerRead 31 = .ok (.getfield 174, 3) := by decide +kernel
theorem dX12_layerRead_34 : decode cX12_layerRead 34 = .ok (.imul, 1) := by decide +kernel
theorem dX12_layerRead_35 : decode cX12_layerRead 35 = .ok (.bipush 6, 2) := by decide +kernel
theorem dX12_layerRead_37 : decode cX12_layerRead 37 = .ok (.aload_n 0, 1) := by decide +kernel
theorem dX12_layerRead_38 : decode cX12_layerRead 38 = .ok (.getfield 68, 3) := by decide +kernel
theorem dX12_layerRead_41 : decode cX12_layerRead 41 = .ok (.aload_n 0, 1) := by decide +kernel
theorem dX12_layerRead_42 : decode cX12_layerRead 42 = .ok (.getfield 174, 3) := by decide +kernel
theorem dX12_layerRead_45 : decode cX12_layerRead 45 = .ok (.iaload, 1) := by decide +kernel
theorem dX12_layerRead_46 : decode cX12_layerRead 46 = .ok (.imul, 1) := by decide +kernel
theorem dX12_layerRead_47 : decode cX12_layerRead 47 = .ok (.iadd, 1) := by decide +kernel
theorem dX12_layerRead_48 : decode cX12_layerRead 48 = .ok (.istore_n 2, 1) := by decide +kernel
theorem dX12_layerRead_49 : decode cX12_layerRead 49 = .ok (.aload_n 0, 1) := by decide +kernel
theorem dX12_layerRead_50 : decode cX12_layerRead 50 = .ok (.getfield 199, 3) := by decide +kernel
theorem dX12_layerRead_53 : decode cX12_layerRead 53 = .ok (.iconst 3, 1) := by decide +kernel
theorem dX12_layerRead_54 : decode cX12_layerRead 54 = .ok (.if_icmp .eq 9, 3) := by decide +kernel
theorem dX12_layerRead_57 : decode cX12_layerRead 57 = .ok (.aload_n 0, 1) := by decide +kernel
theorem dX12_layerRead_58 : decode cX12_layerRead 58 = .ok (.iconst 1, 1) := by decide +kernel
theorem dX12_layerRead_59 : decode cX12_layerRead 59 = .ok (.invokevirtual 222, 3) := by decide +kernel
theorem dX12_layerRead_62 : decode cX12_layerRead 62 = .ok (.ireturn, 1) := by decide +kernel
theorem dX12_layerRead_63 : decode cX12_layerRead 63 = .ok (.aload_n 0, 1) := by decide +kernel
theorem dX12_layerRead_64 : decode cX12_layerRead 64 = .ok (.getfield 209, 3) := by decide +kernel
theorem dX12_layerRead_67 : decode cX12_layerRead 67 = .ok (.sipush 300, 3) := by decide +kernel
theorem dX12_layerRead_70 : decode cX12_layerRead 70 = .ok (.if_icmp .le 9, 3) := by decide +kernel
theorem dX12_layerRead_73 : decode cX12_layerRead 73 = .ok (.aload_n 0, 1) := by decide +kernel
theorem dX12_layerRead_74 : decode cX12_layerRead 74 = .ok (.iconst 2, 1) := by decide +kernel
theorem dX12_layerRead_75 : decode cX12_layerRead 75 = .ok (.invokevirtual 222, 3) := by decide +kernel
theorem dX12_layerRead_78 : decode cX12_layerRead 78 = .ok (.ireturn, 1) := by decide +kernel
theorem dX12_layerRead_79 : decode cX12_layerRead 79 = .ok (.aload_n 0, 1) := by decide +kernel
theorem dX12_layerRead_80 : decode cX12_layerRead 80 = .ok (.getfield 209, 3) := by decide +kernel
theorem dX12_layerRead_83 : decode cX12_layerRead 83 = .ok (.iload_n 1, 1) := by decide +kernel
theorem dX12_layerRead_84 : decode cX12_layerRead 84 = .ok (.if_icmp .eq 9, 3) := by decide +kernel
theorem dX12_layerRead_87 : decode cX12_layerRead 87 = .ok (.aload_n 0, 1) := by decide +kernel
theorem dX12_layerRead_88 : decode cX12_layerRead 88 = .ok (.iconst 3, 1) := by decide +kernel
theorem dX12_layerRead_89 : decode cX12_layerRead 89 = .ok (.invokevirtual 222, 3) := by decide +kernel
theorem dX12_layerRead_92 : decode cX12_layerRead 92 = .ok (.ireturn, 1) := by decide +kernel
theorem dX12_layerRead_93 : decode cX12_layerRead 93 = .ok (.aload_n 0, 1) := by decide +kernel
theorem dX12_layerRead_94 : decode cX12_layerRead 94 = .ok (.getfield 71, 3) := by decide +kernel
theorem dX12_layerRead_97 : decode cX12_layerRead 97 = .ok (.iload_n 2, 1) := by decide +kernel
theorem dX12_layerRead_98 : decode cX12_layerRead 98 = .ok (.aload_n 0, 1) := by decide +kernel
theorem dX12_layerRead_99 : decode cX12_layerRead 99 = .ok (.getfield 209, 3) := by decide +kernel
theorem dX12_layerRead_102 : decode cX12_layerRead 102 = .ok (.iastore, 1) := by decide +kernel
theorem dX12_layerRead_103 : decode cX12_layerRead 103 = .ok (.aload_n 0, 1) := by decide +kernel
theorem dX12_layerRead_104 : decode cX12_layerRead 104 = .ok (.invokevirtual 228, 3) := by decide +kernel
theorem dX12_layerRead_107 : decode cX12_layerRead 107 = .ok (.aload_n 0, 1) := by decide +kernel
theorem dX12_layerRead_108 : decode cX12_layerRead 108 = .ok (.bipush 45, 2) := by decide +kernel
theorem dX12_layerRead_110 : decode cX12_layerRead 110 = .ok (.invokevirtual 231, 3) := by decide +kernel
theorem dX12_layerRead_113 : decode cX12_layerRead 113 = .ok (.ifCond .ne 9, 3) := by decide +kernel
theorem dX12_layerRead_116 : decode cX12_layerRead 116 = .ok (.aload_n 0, 1) := by decide +kernel
theorem dX12_layerRead_117 : decode cX12_layerRead 117 = .ok (.iconst 1, 1) := by decide +kernel
theorem dX12_layerRead_118 : decode cX12_layerRead 118 = .ok (.invokevirtual 222, 3) := by decide +kernel
theorem dX12_layerRead_121 : decode cX12_layerRead 121 = .ok (.ireturn, 1) := by decide +kernel
theorem dX12_layerRead_122 : decode cX12_layerRead 122 = .ok (.aload_n 0, 1) := by decide +kernel
theorem dX12_layerRead_123 : decode cX12_layerRead 123 = .ok (.invokevirtual 228, 3) := by decide +kernel
theorem dX12_layerRead_126 : decode cX12_layerRead 126 = .ok (.aload_n 0, 1) := by decide +kernel
theorem dX12_layerRead_127 : decode cX12_layerRead 127 = .ok (.getfield 199, 3) := by decide +kernel
theorem dX12_layerRead_130 : decode cX12_layerRead 130 = .ok (.iconst 3, 1) := by decide +kernel
theorem dX12_layerRead_131 : decode cX12_layerRead 131 = .ok (.if_icmp .eq 9, 3) := by decide +kernel
theorem dX12_layerRead_134 : decode cX12_layerRead 134 = .ok (.aload_n 0, 1) := by decide +kernel
theorem dX12_layerRead_135 : decode cX12_layerRead 135 = .ok (.iconst 1, 1) := by decide +kernel
theorem dX12_layerRead_136 : decode cX12_layerRead 136 = .ok (.invokevirtual 222, 3) := by decide +kernel
theorem dX12_layerRead_139 : decode cX12_layerRead 139 = .ok (.ireturn, 1) := by decide +kernel
theorem dX12_layerRead_140 : decode cX12_layerRead 140 = .ok (.aload_n 0, 1) := by decide +kernel
theorem dX12_layerRead_141 : decode cX12_layerRead 141 = .ok (.getfield 209, 3) := by decide +kernel
theorem dX12_layerRead_144 : decode cX12_layerRead 144 = .ok (.sipush 300, 3) := by decide +kernel
theorem dX12_layerRead_147 : decode cX12_layerRead 147 = .ok (.if_icmp .le 9, 3) := by decide +kernel
theorem dX12_layerRead_150 : decode cX12_layerRead 150 = .ok (.aload_n 0, 1) := by decide +kernel
theorem dX12_layerRead_151 : decode cX12_layerRead 151 = .ok (.iconst 2, 1) := by decide +kernel
theorem dX12_layerRead_152 : decode cX12_layerRead 152 = .ok (.invokevirtual 222, 3) := by decide +kernel
theorem dX12_layerRead_155 : decode cX12_layerRead 155 = .ok (.ireturn, 1) := by decide +kernel
theorem dX12_layerRead_156 : decode cX12_layerRead 156 = .ok (.aload_n 0, 1) := by decide +kernel
theorem dX12_layerRead_157 : decode cX12_layerRead 157 = .ok (.getfield 209, 3) := by decide +kernel
theorem dX12_layerRead_160 : decode cX12_layerRead 160 = .ok (.iload_n 1, 1) := by decide +kernel
theorem dX12_layerRead_161 : decode cX12_layerRead 161 = .ok (.if_icmp .gt 9, 3) := by decide +kernel
theorem dX12_layerRead_164 : decode cX12_layerRead 164 = .ok (.aload_n 0, 1) := by decide +kernel
theorem dX12_layerRead_165 : decode cX12_layerRead 165 = .ok (.iconst 3, 1) := by decide +kernel
theorem dX12_layerRead_166 : decode cX12_layerRead 166 = .ok (.invokevirtual 222, 3) := by decide +kernel
theorem dX12_layerRead_169 : decode cX12_layerRead 169 = .ok (.ireturn, 1) := by decide +kernel
theorem dX12_layerRead_170 : decode cX12_layerRead 170 = .ok (.aload_n 0, 1) := by decide +kernel
theorem dX12_layerRead_171 : decode cX12_layerRead 171 = .ok (.getfield 71, 3) := by decide +kernel
theorem dX12_layerRead_174 : decode cX12_layerRead 174 = .ok (.iload_n 2, 1) := by decide +kernel
theorem dX12_layerRead_175 : decode cX12_layerRead 175 = .ok (.iconst 1, 1) := by decide +kernel
theorem dX12_layerRead_176 : decode cX12_layerRead 176 = .ok (.iadd, 1) := by decide +kernel
theorem dX12_layerRead_177 : decode cX12_layerRead 177 = .ok (.aload_n 0, 1) := by decide +kernel
theorem dX12_layerRead_178 : decode cX12_layerRead 178 = .ok (.getfield 209, 3) := by decide +kernel
theorem dX12_layerRead_181 : decode cX12_layerRead 181 = .ok (.iastore, 1) := by decide +kernel
theorem dX12_layerRead_182 : decode cX12_layerRead 182 = .ok (.aload_n 0, 1) := by decide +kernel
theorem dX12_layerRead_183 : decode cX12_layerRead 183 = .ok (.invokevirtual 228, 3) := by decide +kernel
theorem dX12_layerRead_186 : decode cX12_layerRead 186 = .ok (.aload_n 0, 1) := by decide +kernel
theorem dX12_layerRead_187 : decode cX12_layerRead 187 = .ok (.getfield 199, 3) := by decide +kernel
theorem dX12_layerRead_190 : decode cX12_layerRead 190 = .ok (.iconst 1, 1) := by decide +kernel
theorem dX12_layerRead_191 : decode cX12_layerRead 191 = .ok (.if_icmp .ne 11, 3) := by decide +kernel
theorem dX12_layerRead_194 : decode cX12_layerRead 194 = .ok (.aload_n 0, 1) := by decide +kernel
theorem dX12_layerRead_195 : decode cX12_layerRead 195 = .ok (.getfield 209, 3) := by decide +kernel
theorem dX12_layerRead_198 : decode cX12_layerRead 198 = .ok (.iconst 5, 1) := by decide +kernel
theorem dX12_layerRead_199 : decode cX12_layerRead 199 = .ok (.if_icmp .le 9, 3) := by decide +kernel
theorem dX12_layerRead_202 : decode cX12_layerRead 202 = .ok (.aload_n 0, 1) := by decide +kernel
theorem dX12_layerRead_203 : decode cX12_layerRead 203 = .ok (.iconst 1, 1) := by decide +kernel
theorem dX12_layerRead_204 : decode cX12_layerRead 204 = .ok (.invokevirtual 222, 3) := by decide +kernel
theorem dX12_layerRead_207 : decode cX12_layerRead 207 = .ok (.ireturn, 1) := by decide +kernel
theorem dX12_layerRead_208 : decode cX12_layerRead 208 = .ok (.aload_n 0, 1) := by decide +kernel
theorem dX12_layerRead_209 : decode cX12_layerRead 209 = .ok (.getfield 71, 3) := by decide +kernel
theorem dX12_layerRead_212 : decode cX12_layerRead 212 = .ok (.iload_n 2, 1) := by decide +kernel
theorem dX12_layerRead_213 : decode cX12_layerRead 213 = .ok (.iconst 2, 1) := by decide +kernel
theorem dX12_layerRead_214 : decode cX12_layerRead 214 = .ok (.iadd, 1) := by decide +kernel
theorem dX12_layerRead_215 : decode cX12_layerRead 215 = .ok (.aload_n 0, 1) := by decide +kernel
theorem dX12_layerRead_216 : decode cX12_layerRead 216 = .ok (.getfield 209, 3) := by decide +kernel
theorem dX12_layerRead_219 : decode cX12_layerRead 219 = .ok (.iastore, 1) := by decide +kernel
theorem dX12_layerRead_220 : decode cX12_layerRead 220 = .ok (.aload_n 0, 1) := by decide +kernel
theorem dX12_layerRead_221 : decode cX12_layerRead 221 = .ok (.invokevirtual 228, 3) := by decide +kernel
theorem dX12_layerRead_224 : decode cX12_layerRead 224 = .ok (.aload_n 0, 1) := by decide +kernel
theorem dX12_layerRead_225 : decode cX12_layerRead 225 = .ok (.getfield 199, 3) := by decide +kernel
theorem dX12_layerRead_228 : decode cX12_layerRead 228 = .ok (.iconst 1, 1) := by decide +kernel
theorem dX12_layerRead_229 : decode cX12_layerRead 229 = .ok (.if_icmp .ne 21, 3) := by decide +kernel
theorem dX12_layerRead_232 : decode cX12_layerRead 232 = .ok (.aload_n 0, 1) := by decide +kernel
theorem dX12_layerRead_233 : decode cX12_layerRead 233 = .ok (.getfield 209, 3) := by decide +kernel
theorem dX12_layerRead_236 : decode cX12_layerRead 236 = .ok (.bipush 6, 2) := by decide +kernel
theorem dX12_layerRead_238 : decode cX12_layerRead 238 = .ok (.if_icmp .lt 12, 3) := by decide +kernel
theorem dX12_layerRead_241 : decode cX12_layerRead 241 = .ok (.aload_n 0, 1) := by decide +kernel
theorem dX12_layerRead_242 : decode cX12_layerRead 242 = .ok (.getfield 209, 3) := by decide +kernel
theorem dX12_layerRead_245 : decode cX12_layerRead 245 = .ok (.bipush 10, 2) := by decide +kernel
theorem dX12_layerRead_247 : decode cX12_layerRead 247 = .ok (.if_icmp .le 9, 3) := by decide +kernel
theorem dX12_layerRead_250 : decode cX12_layerRead 250 = .ok (.aload_n 0, 1) := by decide +kernel
theorem dX12_layerRead_251 : decode cX12_layerRead 251 = .ok (.iconst 1, 1) := by decide +kernel
theorem dX12_layerRead_252 : decode cX12_layerRead 252 = .ok (.invokevirtual 222, 3) := by decide +kernel
theorem dX12_layerRead_255 : decode cX12_layerRead 255 = .ok (.ireturn, 1) := by decide +kernel
theorem dX12_layerRead_256 : decode cX12_layerRead 256 = .ok (.aload_n 0, 1) := by decide +kernel
theorem dX12_layerRead_257 : decode cX12_layerRead 257 = .ok (.getfield 71, 3) := by decide +kernel
theorem dX12_layerRead_260 : decode cX12_layerRead 260 = .ok (.iload_n 2, 1) := by decide +kernel
theorem dX12_layerRead_261 : decode cX12_layerRead 261 = .ok (.iconst 3, 1) := by decide +kernel
theorem dX12_layerRead_262 : decode cX12_layerRead 262 = .ok (.iadd, 1) := by decide +kernel
theorem dX12_layerRead_263 : decode cX12_layerRead 263 = .ok (.aload_n 0, 1) := by decide +kernel
theorem dX12_layerRead_264 : decode cX12_layerRead 264 = .ok (.getfield 209, 3) := by decide +kernel
theorem dX12_layerRead_267 : decode cX12_layerRead 267 = .ok (.bipush 6, 2) := by decide +kernel
theorem dX12_layerRead_269 : decode cX12_layerRead 269 = .ok (.isub, 1) := by decide +kernel
theorem dX12_layerRead_270 : decode cX12_layerRead 270 = .ok (.iastore, 1) := by decide +kernel
theorem dX12_layerRead_271 : decode cX12_layerRead 271 = .ok (.aload_n 0, 1) := by decide +kernel
theorem dX12_layerRead_272 : decode cX12_layerRead 272 = .ok (.invokevirtual 228, 3) := by decide +kernel
theorem dX12_layerRead_275 : decode cX12_layerRead 275 = .ok (.aload_n 0, 1) := by decide +kernel
theorem dX12_layerRead_276 : decode cX12_layerRead 276 = .ok (.getfield 71, 3) := by decide +kernel
theorem dX12_layerRead_279 : decode cX12_layerRead 279 = .ok (.iload_n 2, 1) := by decide +kernel
theorem dX12_layerRead_280 : decode cX12_layerRead 280 = .ok (.iconst 4, 1) := by decide +kernel
theorem dX12_layerRead_281 : decode cX12_layerRead 281 = .ok (.iadd, 1) := by decide +kernel
theorem dX12_layerRead_282 : decode cX12_layerRead 282 = .ok (.aload_n 0, 1) := by decide +kernel
theorem dX12_layerRead_283 : decode cX12_layerRead 283 = .ok (.bipush 11, 2) := by decide +kernel
theorem dX12_layerRead_285 : decode cX12_layerRead 285 = .ok (.invokevirtual 234, 3) := by decide +kernel
theorem dX12_layerRead_288 : decode cX12_layerRead 288 = .ok (.ifCond .eq 7, 3) := by decide +kernel
theorem dX12_layerRead_291 : decode cX12_layerRead 291 = .ok (.iconst 1, 1) := by decide +kernel
theorem dX12_layerRead_292 : decode cX12_layerRead 292 = .ok (.goto 4, 3) := by decide +kernel
theorem dX12_layerRead_295 : decode cX12_layerRead 295 = .ok (.iconst 0, 1) := by decide +kernel
theorem dX12_layerRead_296 : decode cX12_layerRead 296 = .ok (.iastore, 1) := by decide +kernel
theorem dX12_layerRead_297 : decode cX12_layerRead 297 = .ok (.aload_n 0, 1) := by decide +kernel
theorem dX12_layerRead_298 : decode cX12_layerRead 298 = .ok (.bipush 11, 2) := by decide +kernel
theorem dX12_layerRead_300 : decode cX12_layerRead 300 = .ok (.invokevirtual 234, 3) := by decide +kernel
theorem dX12_layerRead_303 : decode cX12_layerRead 303 = .ok (.ifCond .eq 7, 3) := by decide +kernel
theorem dX12_layerRead_306 : decode cX12_layerRead 306 = .ok (.aload_n 0, 1) := by decide +kernel
theorem dX12_layerRead_307 : decode cX12_layerRead 307 = .ok (.invokevirtual 228, 3) := by decide +kernel
theorem dX12_layerRead_310 : decode cX12_layerRead 310 = .ok (.aload_n 0, 1) := by decide +kernel
theorem dX12_layerRead_311 : decode cX12_layerRead 311 = .ok (.getfield 71, 3) := by decide +kernel
theorem dX12_layerRead_314 : decode cX12_layerRead 314 = .ok (.iload_n 2, 1) := by decide +kernel
theorem dX12_layerRead_315 : decode cX12_layerRead 315 = .ok (.iconst 5, 1) := by decide +kernel
theorem dX12_layerRead_316 : decode cX12_layerRead 316 = .ok (.iadd, 1) := by decide +kernel
theorem dX12_layerRead_317 : decode cX12_layerRead 317 = .ok (.iconst 0, 1) := by decide +kernel
theorem dX12_layerRead_318 : decode cX12_layerRead 318 = .ok (.iastore, 1) := by decide +kernel
theorem dX12_layerRead_319 : decode cX12_layerRead 319 = .ok (.aload_n 0, 1) := by decide +kernel
theorem dX12_layerRead_320 : decode cX12_layerRead 320 = .ok (.bipush 12, 2) := by decide +kernel
theorem dX12_layerRead_322 : decode cX12_layerRead 322 = .ok (.invokevirtual 234, 3) := by decide +kernel
theorem dX12_layerRead_325 : decode cX12_layerRead 325 = .ok (.ifCond .eq 30, 3) := by decide +kernel
theorem dX12_layerRead_328 : decode cX12_layerRead 328 = .ok (.aload_n 0, 1) := by decide +kernel
theorem dX12_layerRead_329 : decode cX12_layerRead 329 = .ok (.invokevirtual 228, 3) := by decide +kernel
theorem dX12_layerRead_332 : decode cX12_layerRead 332 = .ok (.aload_n 0, 1) := by decide +kernel
theorem dX12_layerRead_333 : decode cX12_layerRead 333 = .ok (.bipush 99, 2) := by decide +kernel
theorem dX12_layerRead_335 : decode cX12_layerRead 335 = .ok (.invokevirtual 237, 3) := by decide +kernel
theorem dX12_layerRead_338 : decode cX12_layerRead 338 = .ok (.ifCond .ne 5, 3) := by decide +kernel
theorem dX12_layerRead_341 : decode cX12_layerRead 341 = .ok (.iconst 0, 1) := by decide +kernel
theorem dX12_layerRead_342 : decode cX12_layerRead 342 = .ok (.ireturn, 1) := by decide +kernel
theorem dX12_layerRead_343 : decode cX12_layerRead 343 = .ok (.aload_n 0, 1) := by decide +kernel
theorem dX12_layerRead_344 : decode cX12_layerRead 344 = .ok (.getfield 71, 3) := by decide +kernel
theorem dX12_layerRead_347 : decode cX12_layerRead 347 = .ok (.iload_n 2, 1) := by decide +kernel
theorem dX12_layerRead_348 : decode cX12_layerRead 348 = .ok (.iconst 5, 1) := by decide +kernel
theorem dX12_layerRead_349 : decode cX12_layerRead 349 = .ok (.iadd, 1) := by decide +kernel
theorem dX12_layerRead_350 : decode cX12_layerRead 350 = .ok (.aload_n 0, 1) := by decide +kernel
theorem dX12_layerRead_351 : decode cX12_layerRead 351 = .ok (.getfield 225, 3) := by decide +kernel
theorem dX12_layerRead_354 : decode cX12_layerRead 354 = .ok (.iastore, 1) := by decide +kernel
theorem dX12_layerRead_355 : decode cX12_layerRead 355 = .ok (.aload_n 0, 1) := by decide +kernel
theorem dX12_layerRead_356 : decode cX12_layerRead 356 = .ok (.getfield 68, 3) := by decide +kernel
theorem dX12_layerRead_359 : decode cX12_layerRead 359 = .ok (.aload_n 0, 1) := by decide +kernel
theorem dX12_layerRead_360 : decode cX12_layerRead 360 = .ok (.getfield 174, 3) := by decide +kernel
theorem dX12_layerRead_363 : decode cX12_layerRead 363 = .ok (.dup2, 1) := by decide +kernel
theorem dX12_layerRead_364 : decode cX12_layerRead 364 = .ok (.iaload, 1) := by decide +kernel
theorem dX12_layerRead_365 : decode cX12_layerRead 365 = .ok (.iconst 1, 1) := by decide +kernel
theorem dX12_layerRead_366 : decode cX12_layerRead 366 = .ok (.iadd, 1) := by decide +kernel
theorem dX12_layerRead_367 : decode cX12_layerRead 367 = .ok (.iastore, 1) := by decide +kernel
theorem dX12_layerRead_368 : decode cX12_layerRead 368 = .ok (.iconst 1, 1) := by decide +kernel
theorem dX12_layerRead_369 : decode cX12_layerRead 369 = .ok (.ireturn, 1) := by decide +kernel
theorem dX12_boreRead_0 : decode cX12_boreRead 0 = .ok (.aload_n 0, 1) := by decide +kernel
theorem dX12_boreRead_1 : decode cX12_boreRead 1 = .ok (.getfield 68, 3) := by decide +kernel
theorem dX12_boreRead_4 : decode cX12_boreRead 4 = .ok (.aload_n 0, 1) := by decide +kernel
theorem dX12_boreRead_5 : decode cX12_boreRead 5 = .ok (.getfield 174, 3) := by decide +kernel
theorem dX12_boreRead_8 : decode cX12_boreRead 8 = .ok (.iconst 0, 1) := by decide +kernel
theorem dX12_boreRead_9 : decode cX12_boreRead 9 = .ok (.iastore, 1) := by decide +kernel
theorem dX12_boreRead_10 : decode cX12_boreRead 10 = .ok (.iconst 0, 1) := by decide +kernel
theorem dX12_boreRead_11 : decode cX12_boreRead 11 = .ok (.istore_n 1, 1) := by decide +kernel
theorem dX12_boreRead_12 : decode cX12_boreRead 12 = .ok (.aload_n 0, 1) := by decide +kernel
theorem dX12_boreRead_13 : decode cX12_boreRead 13 = .ok (.iload_n 1, 1) := by decide +kernel
theorem dX12_boreRead_14 : decode cX12_boreRead 14 = .ok (.invokevirtual 240, 3) := by decide +kernel
theorem dX12_boreRead_17 : decode cX12_boreRead 17 = .ok (.ifCond .ne 5, 3) := by decide +kernel
theorem dX12_boreRead_20 : decode cX12_boreRead 20 = .ok (.iconst 0, 1) := by decide +kernel
theorem dX12_boreRead_21 : decode cX12_boreRead 21 = .ok (.ireturn, 1) := by decide +kernel
theorem dX12_boreRead_22 : decode cX12_boreRead 22 = .ok (.aload_n 0, 1) := by decide +kernel
theorem dX12_boreRead_23 : decode cX12_boreRead 23 = .ok (.getfield 71, 3) := by decide +kernel
theorem dX12_boreRead_26 : decode cX12_boreRead 26 = .ok (.bipush 48, 2) := by decide +kernel
theorem dX12_boreRead_28 : decode cX12_boreRead 28 = .ok (.aload_n 0, 1) := by decide +kernel
theorem dX12_boreRead_29 : decode cX12_boreRead 29 = .ok (.getfield 174, 3) := by decide +kernel
theorem dX12_boreRead_32 : decode cX12_boreRead 32 = .ok (.imul, 1) := by decide +kernel
theorem dX12_boreRead_33 : decode cX12_boreRead 33 = .ok (.bipush 6, 2) := by decide +kernel
theorem dX12_boreRead_35 : decode cX12_boreRead 35 = .ok (.aload_n 0, 1) := by decide +kernel
theorem dX12_boreRead_36 : decode cX12_boreRead 36 = .ok (.getfield 68, 3) := by decide +kernel
theorem dX12_boreRead_39 : decode cX12_boreRead 39 = .ok (.aload_n 0, 1) := by decide +kernel
theorem dX12_boreRead_40 : decode cX12_boreRead 40 = .ok (.getfield 174, 3) := by decide +kernel
theorem dX12_boreRead_43 : decode cX12_boreRead 43 = .ok (.iaload, 1) := by decide +kernel
theorem dX12_boreRead_44 : decode cX12_boreRead 44 = .ok (.imul, 1) := by decide +kernel
theorem dX12_boreRead_45 : decode cX12_boreRead 45 = .ok (.iadd, 1) := by decide +kernel
theorem dX12_boreRead_46 : decode cX12_boreRead 46 = .ok (.iconst 5, 1) := by decide +kernel
theorem dX12_boreRead_47 : decode cX12_boreRead 47 = .ok (.isub, 1) := by decide +kernel
theorem dX12_boreRead_48 : decode cX12_boreRead 48 = .ok (.iaload, 1) := by decide +kernel
theorem dX12_boreRead_49 : decode cX12_boreRead 49 = .ok (.istore_n 1, 1) := by decide +kernel
theorem dX12_boreRead_50 : decode cX12_boreRead 50 = .ok (.aload_n 0, 1) := by decide +kernel
theorem dX12_boreRead_51 : decode cX12_boreRead 51 = .ok (.getfield 199, 3) := by decide +kernel
theorem dX12_boreRead_54 : decode cX12_boreRead 54 = .ok (.ifCond .ne 5, 3) := by decide +kernel
theorem dX12_boreRead_57 : decode cX12_boreRead 57 = .ok (.iconst 1, 1) := by decide +kernel
theorem dX12_boreRead_58 : decode cX12_boreRead 58 = .ok (.ireturn, 1) := by decide +kernel
theorem dX12_boreRead_59 : decode cX12_boreRead 59 = .ok (.aload_n 0, 1) := by decide +kernel
theorem dX12_boreRead_60 : decode cX12_boreRead 60 = .ok (.bipush 59, 2) := by decide +kernel
theorem dX12_boreRead_62 : decode cX12_boreRead 62 = .ok (.invokevirtual 231, 3) := by decide +kernel
theorem dX12_boreRead_65 : decode cX12_boreRead 65 = .ok (.ifCond .ne 9, 3) := by decide +kernel
theorem dX12_boreRead_68 : decode cX12_boreRead 68 = .ok (.aload_n 0, 1) := by decide +kernel
theorem dX12_boreRead_69 : decode cX12_boreRead 69 = .ok (.iconst 1, 1) := by decide +kernel
theorem dX12_boreRead_70 : decode cX12_boreRead 70 = .ok (.invokevirtual 222, 3) := by decide +kernel
theorem dX12_boreRead_73 : decode cX12_boreRead 73 = .ok (.ireturn, 1) := by decide +kernel
theorem dX12_boreRead_74 : decode cX12_boreRead 74 = .ok (.aload_n 0, 1) := by decide +kernel
theorem dX12_boreRead_75 : decode cX12_boreRead 75 = .ok (.invokevirtual 228, 3) := by decide +kernel
theorem dX12_boreRead_78 : decode cX12_boreRead 78 = .ok (.aload_n 0, 1) := by decide +kernel
theorem dX12_boreRead_79 : decode cX12_boreRead 79 = .ok (.getfield 199, 3) := by decide +kernel
theorem dX12_boreRead_82 : decode cX12_boreRead 82 = .ok (.ifCond .ne (-70), 3) := by decide +kernel
theorem dX12_boreRead_85 : decode cX12_boreRead 85 = .ok (.iconst 1, 1) := by decide +kernel
theorem dX12_boreRead_86 : decode cX12_boreRead 86 = .ok (.ireturn, 1) := by decide +kernel
theorem dX12_bore_0 : decode cX12_bore 0 = .ok (.aload_n 0, 1) := by decide +kernel
theorem dX12_bore_1 : decode cX12_bore 1 = .ok (.iconst 0, 1) := by decide +kernel
theorem dX12_bore_2 : decode cX12_bore 2 = .ok (.putfield 171, 3) := by decide +kernel
theorem dX12_bore_5 : decode cX12_bore 5 = .ok (.iload_n 1, 1) := by decide +kernel
theorem dX12_bore_6 : decode cX12_bore 6 = .ok (.ifCond .lt 37, 3) := by decide +kernel
theorem dX12_bore_9 : decode cX12_bore 9 = .ok (.iload_n 1, 1) := by decide +kernel
theorem dX12_bore_10 : decode cX12_bore 10 = .ok (.aload_n 0, 1) := by decide +kernel
theorem dX12_bore_11 : decode cX12_bore 11 = .ok (.getfield 177, 3) := by decide +kernel
theorem dX12_bore_14 : decode cX12_bore 14 = .ok (.if_icmp .gt 29, 3) := by decide +kernel
theorem dX12_bore_17 : decode cX12_bore 17 = .ok (.iload_n 2, 1) := by decide +kernel
theorem dX12_bore_18 : decode cX12_bore 18 = .ok (.ifCond .lt 25, 3) := by decide +kernel
theorem dX12_bore_21 : decode cX12_bore 21 = .ok (.iload_n 2, 1) := by decide +kernel
theorem dX12_bore_22 : decode cX12_bore 22 = .ok (.iconst 2, 1) := by decide +kernel
theorem dX12_bore_23 : decode cX12_bore 23 = .ok (.if_icmp .gt 20, 3) := by decide +kernel
theorem dX12_bore_26 : decode cX12_bore 26 = .ok (.aload_n 0, 1) := by decide +kernel
theorem dX12_bore_27 : decode cX12_bore 27 = .ok (.iload_n 3, 1) := by decide +kernel
theorem dX12_bore_28 : decode cX12_bore 28 = .ok (.invokevirtual 180, 3) := by decide +kernel
theorem dX12_bore_31 : decode cX12_bore 31 = .ok (.ifCond .eq 12, 3) := by decide +kernel
theorem dX12_bore_34 : decode cX12_bore 34 = .ok (.aload_n 0, 1) := by decide +kernel
theorem dX12_bore_35 : decode cX12_bore 35 = .ok (.getfield 174, 3) := by decide +kernel
theorem dX12_bore_38 : decode cX12_bore 38 = .ok (.bipush 60, 2) := by decide +kernel
theorem dX12_bore_40 : decode cX12_bore 40 = .ok (.if_icmp .ne 6, 3) := by decide +kernel
theorem dX12_bore_43 : decode cX12_bore 43 = .ok (.bipush (-2), 2) := by decide +kernel
theorem dX12_bore_45 : decode cX12_bore 45 = .ok (.ireturn, 1) := by decide +kernel
theorem dX12_bore_46 : decode cX12_bore 46 = .ok (.aload_n 0, 1) := by decide +kernel
theorem dX12_bore_47 : decode cX12_bore 47 = .ok (.iload_n 1, 1) := by decide +kernel
theorem dX12_bore_48 : decode cX12_bore 48 = .ok (.invokevirtual 243, 3) := by decide +kernel
theorem dX12_bore_51 : decode cX12_bore 51 = .ok (.aload_n 0, 1) := by decide +kernel
theorem dX12_bore_52 : decode cX12_bore 52 = .ok (.invokevirtual 247, 3) := by decide +kernel
theorem dX12_bore_55 : decode cX12_bore 55 = .ok (.ifCond .ne 5, 3) := by decide +kernel
theorem dX12_bore_58 : decode cX12_bore 58 = .ok (.iconst (-1), 1) := by decide +kernel
theorem dX12_bore_59 : decode cX12_bore 59 = .ok (.ireturn, 1) := by decide +kernel
theorem dX12_bore_60 : decode cX12_bore 60 = .ok (.aload_n 0, 1) := by decide +kernel
theorem dX12_bore_61 : decode cX12_bore 61 = .ok (.getfield 59, 3) := by decide +kernel
theorem dX12_bore_64 : decode cX12_bore 64 = .ok (.aload_n 0, 1) := by decide +kernel
theorem dX12_bore_65 : decode cX12_bore 65 = .ok (.getfield 174, 3) := by decide +kernel
theorem dX12_bore_68 : decode cX12_bore 68 = .ok (.iconst (-1), 1) := by decide +kernel
theorem dX12_bore_69 : decode cX12_bore 69 = .ok (.iastore, 1) := by decide +kernel
theorem dX12_bore_70 : decode cX12_bore 70 = .ok (.aload_n 0, 1) := by decide +kernel
theorem dX12_bore_71 : decode cX12_bore 71 = .ok (.getfield 62, 3) := by decide +kernel
theorem dX12_bore_74 : decode cX12_bore 74 = .ok (.aload_n 0, 1) := by decide +kernel
theorem dX12_bore_75 : decode cX12_bore 75 = .ok (.getfield 174, 3) := by decide +kernel
theorem dX12_bore_78 : decode cX12_bore 78 = .ok (.iload_n 2, 1) := by decide +kernel
theorem dX12_bore_79 : decode cX12_bore 79 = .ok (.iastore, 1) := by decide +kernel
theorem dX12_bore_80 : decode cX12_bore 80 = .ok (.aload_n 0, 1) := by decide +kernel
theorem dX12_bore_81 : decode cX12_bore 81 = .ok (.getfield 65, 3) := by decide +kernel
theorem dX12_bore_84 : decode cX12_bore 84 = .ok (.aload_n 0, 1) := by decide +kernel
theorem dX12_bore_85 : decode cX12_bore 85 = .ok (.getfield 174, 3) := by decide +kernel
theorem dX12_bore_88 : decode cX12_bore 88 = .ok (.iload_n 3, 1) := by decide +kernel
theorem dX12_bore_89 : decode cX12_bore 89 = .ok (.iastore, 1) := by decide +kernel
theorem dX12_bore_90 : decode cX12_bore 90 = .ok (.aload_n 0, 1) := by decide +kernel
theorem dX12_bore_91 : decode cX12_bore 91 = .ok (.dup, 1) := by decide +kernel
theorem dX12_bore_92 : decode cX12_bore 92 = .ok (.getfield 174, 3) := by decide +kernel
theorem dX12_bore_95 : decode cX12_bore 95 = .ok (.iconst 1, 1) := by decide +kernel
theorem dX12_bore_96 : decode cX12_bore 96 = .ok (.iadd, 1) := by decide +kernel
theorem dX12_bore_97 : decode cX12_bore 97 = .ok (.putfield 174, 3) := by decide +kernel
theorem dX12_bore_100 : decode cX12_bore 100 = .ok (.aload_n 0, 1) := by decide +kernel
theorem dX12_bore_101 : decode cX12_bore 101 = .ok (.getfield 174, 3) := by decide +kernel
theorem dX12_bore_104 : decode cX12_bore 104 = .ok (.iconst 1, 1) := by decide +kernel
theorem dX12_bore_105 : decode cX12_bore 105 = .ok (.isub, 1) := by decide +kernel
theorem dX12_bore_106 : decode cX12_bore 106 = .ok (.ireturn, 1) := by decide +kernel
theorem dX12_fault_0 : decode cX12_fault 0 = .ok (.aload_n 0, 1) := by decide +kernel
theorem dX12_fault_1 : decode cX12_fault 1 = .ok (.iconst 0, 1) := by decide +kernel
theorem dX12_fault_2 : decode cX12_fault 2 = .ok (.putfield 171, 3) := by decide +kernel
theorem dX12_fault_5 : decode cX12_fault 5 = .ok (.iload_n 1, 1) := by decide +kernel
theorem dX12_fault_6 : decode cX12_fault 6 = .ok (.ifCond .ne 10, 3) := by decide +kernel
theorem dX12_fault_9 : decode cX12_fault 9 = .ok (.aload_n 0, 1) := by decide +kernel
theorem dX12_fault_10 : decode cX12_fault 10 = .ok (.getfield 184, 3) := by decide +kernel
theorem dX12_fault_13 : decode cX12_fault 13 = .ok (.goto 16, 3) := by decide +kernel
theorem dX12_fault_16 : decode cX12_fault 16 = .ok (.iload_n 1, 1) := by decide +kernel
theorem dX12_fault_17 : decode cX12_fault 17 = .ok (.iconst 1, 1) := by decide +kernel
theorem dX12_fault_18 : decode cX12_fault 18 = .ok (.if_icmp .ne 10, 3) := by decide +kernel
theorem dX12_fault_21 : decode cX12_fault 21 = .ok (.aload_n 0, 1) := by decide +kernel
theorem dX12_fault_22 : decode cX12_fault 22 = .ok (.getfield 56, 3) := by decide +kernel
theorem dX12_fault_25 : decode cX12_fault 25 = .ok (.goto 4, 3) := by decide +kernel
theorem dX12_fault_28 : decode cX12_fault 28 = .ok (.iconst (-1), 1) := by decide +kernel
theorem dX12_fault_29 : decode cX12_fault 29 = .ok (.ireturn, 1) := by decide +kernel
theorem dX12_strike_0 : decode cX12_strike 0 = .ok (.aload_n 0, 1) := by decide +kernel
theorem dX12_strike_1 : decode cX12_strike 1 = .ok (.iconst 0, 1) := by decide +kernel
theorem dX12_strike_2 : decode cX12_strike 2 = .ok (.putfield 171, 3) := by decide +kernel
theorem dX12_strike_5 : decode cX12_strike 5 = .ok (.iload_n 1, 1) := by decide +kernel
theorem dX12_strike_6 : decode cX12_strike 6 = .ok (.ifCond .lt 20, 3) := by decide +kernel
theorem dX12_strike_9 : decode cX12_strike 9 = .ok (.iload_n 1, 1) := by decide +kernel
theorem dX12_strike_10 : decode cX12_strike 10 = .ok (.aload_n 0, 1) := by decide +kernel
theorem dX12_strike_11 : decode cX12_strike 11 = .ok (.getfield 174, 3) := by decide +kernel
theorem dX12_strike_14 : decode cX12_strike 14 = .ok (.if_icmp .ge 12, 3) := by decide +kernel
theorem dX12_strike_17 : decode cX12_strike 17 = .ok (.aload_n 0, 1) := by decide +kernel
theorem dX12_strike_18 : decode cX12_strike 18 = .ok (.getfield 174, 3) := by decide +kernel
theorem dX12_strike_21 : decode cX12_strike 21 = .ok (.bipush 60, 2) := by decide +kernel
theorem dX12_strike_23 : decode cX12_strike 23 = .ok (.if_icmp .ne 5, 3) := by decide +kernel
theorem dX12_strike_26 : decode cX12_strike 26 = .ok (.iconst (-1), 1) := by decide +kernel
theorem dX12_strike_27 : decode cX12_strike 27 = .ok (.ireturn, 1) := by decide +kernel
theorem dX12_strike_28 : decode cX12_strike 28 = .ok (.aload_n 0, 1) := by decide +kernel
theorem dX12_strike_29 : decode cX12_strike 29 = .ok (.getfield 59, 3) := by decide +kernel
theorem dX12_strike_32 : decode cX12_strike 32 = .ok (.aload_n 0, 1) := by decide +kernel
theorem dX12_strike_33 : decode cX12_strike 33 = .ok (.getfield 174, 3) := by decide +kernel
theorem dX12_strike_36 : decode cX12_strike 36 = .ok (.iload_n 1, 1) := by decide +kernel
theorem dX12_strike_37 : decode cX12_strike 37 = .ok (.iastore, 1) := by decide +kernel
theorem dX12_strike_38 : decode cX12_strike 38 = .ok (.aload_n 0, 1) := by decide +kernel
theorem dX12_strike_39 : decode cX12_strike 39 = .ok (.dup, 1) := by decide +kernel
theorem dX12_strike_40 : decode cX12_strike 40 = .ok (.getfield 174, 3) := by decide +kernel
theorem dX12_strike_43 : decode cX12_strike 43 = .ok (.iconst 1, 1) := by decide +kernel
theorem dX12_strike_44 : decode cX12_strike 44 = .ok (.iadd, 1) := by decide +kernel
theorem dX12_strike_45 : decode cX12_strike 45 = .ok (.putfield 174, 3) := by decide +kernel
theorem dX12_strike_48 : decode cX12_strike 48 = .ok (.aload_n 0, 1) := by decide +kernel
theorem dX12_strike_49 : decode cX12_strike 49 = .ok (.getfield 174, 3) := by decide +kernel
theorem dX12_strike_52 : decode cX12_strike 52 = .ok (.iconst 1, 1) := by decide +kernel
theorem dX12_strike_53 : decode cX12_strike 53 = .ok (.isub, 1) := by decide +kernel
theorem dX12_strike_54 : decode cX12_strike 54 = .ok (.ireturn, 1) := by decide +kernel
theorem dX12_isBore_0 : decode cX12_isBore 0 = .ok (.iload_n 1, 1) := by decide +kernel
theorem dX12_isBore_1 : decode cX12_isBore 1 = .ok (.ifCond .lt 24, 3) := by decide +kernel
theorem dX12_isBore_4 : decode cX12_isBore 4 = .ok (.iload_n 1, 1) := by decide +kernel
theorem dX12_isBore_5 : decode cX12_isBore 5 = .ok (.aload_n 0, 1) := by decide +kernel
theorem dX12_isBore_6 : decode cX12_isBore 6 = .ok (.getfield 174, 3) := by decide +kernel
theorem dX12_isBore_9 : decode cX12_isBore 9 = .ok (.if_icmp .ge 16, 3) := by decide +kernel
theorem dX12_isBore_12 : decode cX12_isBore 12 = .ok (.aload_n 0, 1) := by decide +kernel
theorem dX12_isBore_13 : decode cX12_isBore 13 = .ok (.getfield 59, 3) := by decide +kernel
theorem dX12_isBore_16 : decode cX12_isBore 16 = .ok (.iload_n 1, 1) := by decide +kernel
theorem dX12_isBore_17 : decode cX12_isBore 17 = .ok (.iaload, 1) := by decide +kernel
theorem dX12_isBore_18 : decode cX12_isBore 18 = .ok (.ifCond .ge 7, 3) := by decide +kernel
theorem dX12_isBore_21 : decode cX12_isBore 21 = .ok (.iconst 1, 1) := by decide +kernel
theorem dX12_isBore_22 : decode cX12_isBore 22 = .ok (.goto 4, 3) := by decide +kernel
theorem dX12_isBore_25 : decode cX12_isBore 25 = .ok (.iconst 0, 1) := by decide +kernel
theorem dX12_isBore_26 : decode cX12_isBore 26 = .ok (.ireturn, 1) := by decide +kernel
theorem dX12_layer_0 : decode cX12_layer 0 = .ok (.aload_n 0, 1) := by decide +kernel
theorem dX12_layer_1 : decode cX12_layer 1 = .ok (.iconst 0, 1) := by decide +kernel
theorem dX12_layer_2 : decode cX12_layer 2 = .ok (.putfield 171, 3) := by decide +kernel
theorem dX12_layer_5 : decode cX12_layer 5 = .ok (.aload_n 0, 1) := by decide +kernel
theorem dX12_layer_6 : decode cX12_layer 6 = .ok (.iload_n 1, 1) := by decide +kernel
theorem dX12_layer_7 : decode cX12_layer 7 = .ok (.invokevirtual 251, 3) := by decide +kernel
theorem dX12_layer_10 : decode cX12_layer 10 = .ok (.ifCond .eq 26, 3) := by decide +kernel
theorem dX12_layer_13 : decode cX12_layer 13 = .ok (.iload_n 2, 1) := by decide +kernel
theorem dX12_layer_14 : decode cX12_layer 14 = .ok (.ifCond .lt 22, 3) := by decide +kernel
theorem dX12_layer_17 : decode cX12_layer 17 = .ok (.iload_n 2, 1) := by decide +kernel
theorem dX12_layer_18 : decode cX12_layer 18 = .ok (.aload_n 0, 1) := by decide +kernel
theorem dX12_layer_19 : decode cX12_layer 19 = .ok (.getfield 68, 3) := by decide +kernel
theorem dX12_layer_22 : decode cX12_layer 22 = .ok (.iload_n 1, 1) := by decide +kernel
theorem dX12_layer_23 : decode cX12_layer 23 = .ok (.iaload, 1) := by decide +kernel
theorem dX12_layer_24 : decode cX12_layer 24 = .ok (.if_icmp .ge 12, 3) := by decide +kernel
theorem dX12_layer_27 : decode cX12_layer 27 = .ok (.iload_n 3, 1) := by decide +kernel
theorem dX12_layer_28 : decode cX12_layer 28 = .ok (.ifCond .lt 8, 3) := by decide +kernel
theorem dX12_layer_31 : decode cX12_layer 31 = .ok (.iload_n 3, 1) := by decide +kernel
theorem dX12_layer_32 : decode cX12_layer 32 = .ok (.iconst 5, 1) := by decide +kernel
theorem dX12_layer_33 : decode cX12_layer 33 = .ok (.if_icmp .le 5, 3) := by decide +kernel
theorem dX12_layer_36 : decode cX12_layer 36 = .ok (.iconst (-1), 1) := by decide +kernel
theorem dX12_layer_37 : decode cX12_layer 37 = .ok (.ireturn, 1) := by decide +kernel
theorem dX12_layer_38 : decode cX12_layer 38 = .ok (.aload_n 0, 1) := by decide +kernel
theorem dX12_layer_39 : decode cX12_layer 39 = .ok (.getfield 71, 3) := by decide +kernel
theorem dX12_layer_42 : decode cX12_layer 42 = .ok (.bipush 48, 2) := by decide +kernel
theorem dX12_layer_44 : decode cX12_layer 44 = .ok (.iload_n 1, 1) := by decide +kernel
theorem dX12_layer_45 : decode cX12_layer 45 = .ok (.imul, 1) := by decide +kernel
theorem dX12_layer_46 : decode cX12_layer 46 = .ok (.bipush 6, 2) := by decide +kernel
theorem dX12_layer_48 : decode cX12_layer 48 = .ok (.iload_n 2, 1) := by decide +kernel
theorem dX12_layer_49 : decode cX12_layer 49 = .ok (.imul, 1) := by decide +kernel
theorem dX12_layer_50 : decode cX12_layer 50 = .ok (.iadd, 1) := by decide +kernel
theorem dX12_layer_51 : decode cX12_layer 51 = .ok (.iload_n 3, 1) := by decide +kernel
theorem dX12_layer_52 : decode cX12_layer 52 = .ok (.iadd, 1) := by decide +kernel
theorem dX12_layer_53 : decode cX12_layer 53 = .ok (.iaload, 1) := by decide +kernel
theorem dX12_layer_54 : decode cX12_layer 54 = .ok (.ireturn, 1) := by decide +kernel
theorem dX12_grown_0 : decode cX12_grown 0 = .ok (.aload_n 0, 1) := by decide +kernel
theorem dX12_grown_1 : decode cX12_grown 1 = .ok (.getfield 254, 3) := by decide +kernel
theorem dX12_grown_4 : decode cX12_grown 4 = .ok (.bipush 96, 2) := by decide +kernel
theorem dX12_grown_6 : decode cX12_grown 6 = .ok (.if_icmp .ne 11, 3) := by decide +kernel
theorem dX12_grown_9 : decode cX12_grown 9 = .ok (.aload_n 0, 1) := by decide +kernel
theorem dX12_grown_10 : decode cX12_grown 10 = .ok (.iconst 2, 1) := by decide +kernel
theorem dX12_grown_11 : decode cX12_grown 11 = .ok (.invokevirtual 222, 3) := by decide +kernel
theorem dX12_grown_14 : decode cX12_grown 14 = .ok (.istore_n 2, 1) := by decide +kernel
theorem dX12_grown_15 : decode cX12_grown 15 = .ok (.iconst (-1), 1) := by decide +kernel
theorem dX12_grown_16 : decode cX12_grown 16 = .ok (.ireturn, 1) := by decide +kernel
theorem dX12_grown_17 : decode cX12_grown 17 = .ok (.bipush 96, 2) := by decide +kernel
theorem dX12_grown_19 : decode cX12_grown 19 = .ok (.aload_n 0, 1) := by decide +kernel
theorem dX12_grown_20 : decode cX12_grown 20 = .ok (.getfield 254, 3) := by decide +kernel
theorem dX12_grown_23 : decode cX12_grown 23 = .ok (.iadd, 1) := by decide +kernel
theorem dX12_grown_24 : decode cX12_grown 24 = .ok (.istore_n 2, 1) := by decide +kernel
theorem dX12_grown_25 : decode cX12_grown 25 = .ok (.aload_n 0, 1) := by decide +kernel
theorem dX12_grown_26 : decode cX12_grown 26 = .ok (.dup, 1) := by decide +kernel
theorem dX12_grown_27 : decode cX12_grown 27 = .ok (.getfield 254, 3) := by decide +kernel
theorem dX12_grown_30 : decode cX12_grown 30 = .ok (.iconst 1, 1) := by decide +kernel
theorem dX12_grown_31 : decode cX12_grown 31 = .ok (.iadd, 1) := by decide +kernel
theorem dX12_grown_32 : decode cX12_grown 32 = .ok (.putfield 254, 3) := by decide +kernel
theorem dX12_grown_35 : decode cX12_grown 35 = .ok (.aload_n 0, 1) := by decide +kernel
theorem dX12_grown_36 : decode cX12_grown 36 = .ok (.getfield 93, 3) := by decide +kernel
theorem dX12_grown_39 : decode cX12_grown 39 = .ok (.iload_n 2, 1) := by decide +kernel
theorem dX12_grown_40 : decode cX12_grown 40 = .ok (.iload_n 1, 1) := by decide +kernel
theorem dX12_grown_41 : decode cX12_grown 41 = .ok (.iastore, 1) := by decide +kernel
theorem dX12_grown_42 : decode cX12_grown 42 = .ok (.aload_n 0, 1) := by decide +kernel
theorem dX12_grown_43 : decode cX12_grown 43 = .ok (.getfield 96, 3) := by decide +kernel
theorem dX12_grown_46 : decode cX12_grown 46 = .ok (.iload_n 2, 1) := by decide +kernel
theorem dX12_grown_47 : decode cX12_grown 47 = .ok (.iconst 0, 1) := by decide +kernel
theorem dX12_grown_48 : decode cX12_grown 48 = .ok (.iastore, 1) := by decide +kernel
theorem dX12_grown_49 : decode cX12_grown 49 = .ok (.aload_n 0, 1) := by decide +kernel
theorem dX12_grown_50 : decode cX12_grown 50 = .ok (.getfield 99, 3) := by decide +kernel
theorem dX12_grown_53 : decode cX12_grown 53 = .ok (.iload_n 2, 1) := by decide +kernel
theorem dX12_grown_54 : decode cX12_grown 54 = .ok (.iconst 0, 1) := by decide +kernel
theorem dX12_grown_55 : decode cX12_grown 55 = .ok (.iastore, 1) := by decide +kernel
theorem dX12_grown_56 : decode cX12_grown 56 = .ok (.aload_n 0, 1) := by decide +kernel
theorem dX12_grown_57 : decode cX12_grown 57 = .ok (.getfield 102, 3) := by decide +kernel
theorem dX12_grown_60 : decode cX12_grown 60 = .ok (.iload_n 2, 1) := by decide +kernel
theorem dX12_grown_61 : decode cX12_grown 61 = .ok (.iconst (-1), 1) := by decide +kernel
theorem dX12_grown_62 : decode cX12_grown 62 = .ok (.iastore, 1) := by decide +kernel
theorem dX12_grown_63 : decode cX12_grown 63 = .ok (.aload_n 0, 1) := by decide +kernel
theorem dX12_grown_64 : decode cX12_grown 64 = .ok (.getfield 105, 3) := by decide +kernel
theorem dX12_grown_67 : decode cX12_grown 67 = .ok (.iload_n 2, 1) := by decide +kernel
theorem dX12_grown_68 : decode cX12_grown 68 = .ok (.iconst (-1), 1) := by decide +kernel
theorem dX12_grown_69 : decode cX12_grown 69 = .ok (.iastore, 1) := by decide +kernel
theorem dX12_grown_70 : decode cX12_grown 70 = .ok (.iload_n 2, 1) := by decide +kernel
theorem dX12_grown_71 : decode cX12_grown 71 = .ok (.ireturn, 1) := by decide +kernel
theorem dX12_hold_0 : decode cX12_hold 0 = .ok (.aload_n 0, 1) := by decide +kernel
theorem dX12_hold_1 : decode cX12_hold 1 = .ok (.getfield 117, 3) := by decide +kernel
theorem dX12_hold_4 : decode cX12_hold 4 = .ok (.aload_n 0, 1) := by decide +kernel
theorem dX12_hold_5 : decode cX12_hold 5 = .ok (.getfield 257, 3) := by decide +kernel
theorem dX12_hold_8 : decode cX12_hold 8 = .ok (.iload_n 1, 1) := by decide +kernel
theorem dX12_hold_9 : decode cX12_hold 9 = .ok (.iastore, 1) := by decide +kernel
theorem dX12_hold_10 : decode cX12_hold 10 = .ok (.aload_n 0, 1) := by decide +kernel
theorem dX12_hold_11 : decode cX12_hold 11 = .ok (.dup, 1) := by decide +kernel
theorem dX12_hold_12 : decode cX12_hold 12 = .ok (.getfield 257, 3) := by decide +kernel
theorem dX12_hold_15 : decode cX12_hold 15 = .ok (.iconst 1, 1) := by decide +kernel
theorem dX12_hold_16 : decode cX12_hold 16 = .ok (.iadd, 1) := by decide +kernel
theorem dX12_hold_17 : decode cX12_hold 17 = .ok (.putfield 257, 3) := by decide +kernel
theorem dX12_hold_20 : decode cX12_hold 20 = .ok (.return_, 1) := by decide +kernel
theorem dX12_drop_0 : decode cX12_drop 0 = .ok (.aload_n 0, 1) := by decide +kernel
theorem dX12_drop_1 : decode cX12_drop 1 = .ok (.dup, 1) := by decide +kernel
theorem dX12_drop_2 : decode cX12_drop 2 = .ok (.getfield 257, 3) := by decide +kernel
theorem dX12_drop_5 : decode cX12_drop 5 = .ok (.iconst 1, 1) := by decide +kernel
theorem dX12_drop_6 : decode cX12_drop 6 = .ok (.isub, 1) := by decide +kernel
theorem dX12_drop_7 : decode cX12_drop 7 = .ok (.putfield 257, 3) := by decide +kernel
theorem dX12_drop_10 : decode cX12_drop 10 = .ok (.aload_n 0, 1) := by decide +kernel
theorem dX12_drop_11 : decode cX12_drop 11 = .ok (.getfield 117, 3) := by decide +kernel
theorem dX12_drop_14 : decode cX12_drop 14 = .ok (.aload_n 0, 1) := by decide +kernel
theorem dX12_drop_15 : decode cX12_drop 15 = .ok (.getfield 257, 3) := by decide +kernel
theorem dX12_drop_18 : decode cX12_drop 18 = .ok (.iaload, 1) := by decide +kernel
theorem dX12_drop_19 : decode cX12_drop 19 = .ok (.ireturn, 1) := by decide +kernel
theorem dX12_done_0 : decode cX12_done 0 = .ok (.aload_n 0, 1) := by decide +kernel
theorem dX12_done_1 : decode cX12_done 1 = .ok (.getfield 108, 3) := by decide +kernel
theorem dX12_done_4 : decode cX12_done 4 = .ok (.bipush 96, 2) := by decide +kernel
theorem dX12_done_6 : decode cX12_done 6 = .ok (.aload_n 0, 1) := by decide +kernel
theorem dX12_done_7 : decode cX12_done 7 = .ok (.getfield 260, 3) := by decide +kernel
theorem dX12_done_10 : decode cX12_done 10 = .ok (.iadd, 1) := by decide +kernel
theorem dX12_done_11 : decode cX12_done 11 = .ok (.iload_n 1, 1) := by decide +kernel
theorem dX12_done_12 : decode cX12_done 12 = .ok (.iastore, 1) := by decide +kernel
theorem dX12_done_13 : decode cX12_done 13 = .ok (.aload_n 0, 1) := by decide +kernel
theorem dX12_done_14 : decode cX12_done 14 = .ok (.dup, 1) := by decide +kernel
theorem dX12_done_15 : decode cX12_done 15 = .ok (.getfield 260, 3) := by decide +kernel
theorem dX12_done_18 : decode cX12_done 18 = .ok (.iconst 1, 1) := by decide +kernel
theorem dX12_done_19 : decode cX12_done 19 = .ok (.iadd, 1) := by decide +kernel
theorem dX12_done_20 : decode cX12_done 20 = .ok (.putfield 260, 3) := by decide +kernel
theorem dX12_done_23 : decode cX12_done 23 = .ok (.aload_n 0, 1) := by decide +kernel
theorem dX12_done_24 : decode cX12_done 24 = .ok (.iload_n 1, 1) := by decide +kernel
theorem dX12_done_25 : decode cX12_done 25 = .ok (.invokevirtual 263, 3) := by decide +kernel
theorem dX12_done_28 : decode cX12_done 28 = .ok (.return_, 1) := by decide +kernel
theorem dX12_weight_0 : decode cX12_weight 0 = .ok (.iload_n 0, 1) := by decide +kernel
theorem dX12_weight_1 : decode cX12_weight 1 = .ok (.bipush 15, 2) := by decide +kernel
theorem dX12_weight_3 : decode cX12_weight 3 = .ok (.if_icmp .ne 7, 3) := by decide +kernel
theorem dX12_weight_6 : decode cX12_weight 6 = .ok (.iconst 3, 1) := by decide +kernel
theorem dX12_weight_7 : decode cX12_weight 7 = .ok (.goto 24, 3) := by decide +kernel
theorem dX12_weight_10 : decode cX12_weight 10 = .ok (.iload_n 0, 1) := by decide +kernel
theorem dX12_weight_11 : decode cX12_weight 11 = .ok (.bipush 14, 2) := by decide +kernel
theorem dX12_weight_13 : decode cX12_weight 13 = .ok (.if_icmp .ne 7, 3) := by decide +kernel
theorem dX12_weight_16 : decode cX12_weight 16 = .ok (.iconst 2, 1) := by decide +kernel
theorem dX12_weight_17 : decode cX12_weight 17 = .ok (.goto 14, 3) := by decide +kernel
theorem dX12_weight_20 : decode cX12_weight 20 = .ok (.iload_n 0, 1) := by decide +kernel
theorem dX12_weight_21 : decode cX12_weight 21 = .ok (.bipush 13, 2) := by decide +kernel
theorem dX12_weight_23 : decode cX12_weight 23 = .ok (.if_icmp .ne 7, 3) := by decide +kernel
theorem dX12_weight_26 : decode cX12_weight 26 = .ok (.iconst 1, 1) := by decide +kernel
theorem dX12_weight_27 : decode cX12_weight 27 = .ok (.goto 4, 3) := by decide +kernel
theorem dX12_weight_30 : decode cX12_weight 30 = .ok (.iconst 0, 1) := by decide +kernel
theorem dX12_weight_31 : decode cX12_weight 31 = .ok (.ireturn, 1) := by decide +kernel
theorem dX12_bind_0 : decode cX12_bind 0 = .ok (.aload_n 0, 1) := by decide +kernel
theorem dX12_bind_1 : decode cX12_bind 1 = .ok (.getfield 266, 3) := by decide +kernel
theorem dX12_bind_4 : decode cX12_bind 4 = .ok (.ifCond .le 83, 3) := by decide +kernel
theorem dX12_bind_7 : decode cX12_bind 7 = .ok (.aload_n 0, 1) := by decide +kernel
theorem dX12_bind_8 : decode cX12_bind 8 = .ok (.getfield 111, 3) := by decide +kernel
theorem dX12_bind_11 : decode cX12_bind 11 = .ok (.aload_n 0, 1) := by decide +kernel
theorem dX12_bind_12 : decode cX12_bind 12 = .ok (.getfield 266, 3) := by decide +kernel
theorem dX12_bind_15 : decode cX12_bind 15 = .ok (.iconst 1, 1) := by decide +kernel
theorem dX12_bind_16 : decode cX12_bind 16 = .ok (.isub, 1) := by decide +kernel
theorem dX12_bind_17 : decode cX12_bind 17 = .ok (.iaload, 1) := by decide +kernel
theorem dX12_bind_18 : decode cX12_bind 18 = .ok (.invokestatic 269, 3) := by decide +kernel
theorem dX12_bind_21 : decode cX12_bind 21 = .ok (.iload_n 1, 1) := by decide +kernel
theorem dX12_bind_22 : decode cX12_bind 22 = .ok (.if_icmp .lt 65, 3) := by decide +kernel
theorem dX12_bind_25 : decode cX12_bind 25 = .ok (.aload_n 0, 1) := by decide +kernel
theorem dX12_bind_26 : decode cX12_bind 26 = .ok (.dup, 1) := by decide +kernel
theorem dX12_bind_27 : decode cX12_bind 27 = .ok (.getfield 266, 3) := by decide +kernel
theorem dX12_bind_30 : decode cX12_bind 30 = .ok (.iconst 1, 1) := by decide +kernel
theorem dX12_bind_31 : decode cX12_bind 31 = .ok (.isub, 1) := by decide +kernel
theorem dX12_bind_32 : decode cX12_bind 32 = .ok (.putfield 266, 3) := by decide +kernel
theorem dX12_bind_35 : decode cX12_bind 35 = .ok (.aload_n 0, 1) := by decide +kernel
theorem dX12_bind_36 : decode cX12_bind 36 = .ok (.getfield 114, 3) := by decide +kernel
theorem dX12_bind_39 : decode cX12_bind 39 = .ok (.aload_n 0, 1) := by decide +kernel
theorem dX12_bind_40 : decode cX12_bind 40 = .ok (.getfield 266, 3) := by decide +kernel
theorem dX12_bind_43 : decode cX12_bind 43 = .ok (.iaload, 1) := by decide +kernel
theorem dX12_bind_44 : decode cX12_bind 44 = .ok (.istore_n 2, 1) := by decide +kernel
theorem dX12_bind_45 : decode cX12_bind 45 = .ok (.aload_n 0, 1) := by decide +kernel
theorem dX12_bind_46 : decode cX12_bind 46 = .ok (.getfield 111, 3) := by decide +kernel
theorem dX12_bind_49 : decode cX12_bind 49 = .ok (.aload_n 0, 1) := by decide +kernel
theorem dX12_bind_50 : decode cX12_bind 50 = .ok (.getfield 266, 3) := by decide +kernel
theorem dX12_bind_53 : decode cX12_bind 53 = .ok (.iaload, 1) := by decide +kernel
theorem dX12_bind_54 : decode cX12_bind 54 = .ok (.bipush 15, 2) := by decide +kernel
theorem dX12_bind_56 : decode cX12_bind 56 = .ok (.if_icmp .eq 13, 3) := by decide +kernel
theorem dX12_bind_59 : decode cX12_bind 59 = .ok (.aload_n 0, 1) := by decide +kernel
theorem dX12_bind_60 : decode cX12_bind 60 = .ok (.getfield 105, 3) := by decide +kernel
theorem dX12_bind_63 : decode cX12_bind 63 = .ok (.iload_n 2, 1) := by decide +kernel
theorem dX12_bind_64 : decode cX12_bind 64 = .ok (.aload_n 0, 1) := by decide +kernel
theorem dX12_bind_65 : decode cX12_bind 65 = .ok (.invokevirtual 272, 3) := by decide +kernel
theorem dX12_bind_68 : decode cX12_bind 68 = .ok (.iastore, 1) := by decide +kernel
theorem dX12_bind_69 : decode cX12_bind 69 = .ok (.aload_n 0, 1) := by decide +kernel
theorem dX12_bind_70 : decode cX12_bind 70 = .ok (.getfield 102, 3) := by decide +kernel
theorem dX12_bind_73 : decode cX12_bind 73 = .ok (.iload_n 2, 1) := by decide +kernel
theorem dX12_bind_74 : decode cX12_bind 74 = .ok (.aload_n 0, 1) := by decide +kernel
theorem dX12_bind_75 : decode cX12_bind 75 = .ok (.invokevirtual 272, 3) := by decide +kernel
theorem dX12_bind_78 : decode cX12_bind 78 = .ok (.iastore, 1) := by decide +kernel
theorem dX12_bind_79 : decode cX12_bind 79 = .ok (.aload_n 0, 1) := by decide +kernel
theorem dX12_bind_80 : decode cX12_bind 80 = .ok (.iload_n 2, 1) := by decide +kernel
theorem dX12_bind_81 : decode cX12_bind 81 = .ok (.invokevirtual 276, 3) := by decide +kernel
theorem dX12_bind_84 : decode cX12_bind 84 = .ok (.goto (-84), 3) := by decide +kernel
theorem dX12_bind_87 : decode cX12_bind 87 = .ok (.return_, 1) := by decide +kernel
theorem dX12_waitFor_0 : decode cX12_waitFor 0 = .ok (.aload_n 0, 1) := by decide +kernel
theorem dX12_waitFor_1 : decode cX12_waitFor 1 = .ok (.getfield 111, 3) := by decide +kernel
theorem dX12_waitFor_4 : decode cX12_waitFor 4 = .ok (.aload_n 0, 1) := by decide +kernel
theorem dX12_waitFor_5 : decode cX12_waitFor 5 = .ok (.getfield 266, 3) := by decide +kernel
theorem dX12_waitFor_8 : decode cX12_waitFor 8 = .ok (.iload_n 1, 1) := by decide +kernel
theorem dX12_waitFor_9 : decode cX12_waitFor 9 = .ok (.iastore, 1) := by decide +kernel
theorem dX12_waitFor_10 : decode cX12_waitFor 10 = .ok (.aload_n 0, 1) := by decide +kernel
theorem dX12_waitFor_11 : decode cX12_waitFor 11 = .ok (.getfield 114, 3) := by decide +kernel
theorem dX12_waitFor_14 : decode cX12_waitFor 14 = .ok (.aload_n 0, 1) := by decide +kernel
theorem dX12_waitFor_15 : decode cX12_waitFor 15 = .ok (.getfield 266, 3) := by decide +kernel
theorem dX12_waitFor_18 : decode cX12_waitFor 18 = .ok (.iload_n 2, 1) := by decide +kernel
theorem dX12_waitFor_19 : decode cX12_waitFor 19 = .ok (.iastore, 1) := by decide +kernel
theorem dX12_waitFor_20 : decode cX12_waitFor 20 = .ok (.aload_n 0, 1) := by decide +kernel
theorem dX12_waitFor_21 : decode cX12_waitFor 21 = .ok (.dup, 1) := by decide +kernel
theorem dX12_waitFor_22 : decode cX12_waitFor 22 = .ok (.getfield 266, 3) := by decide +kernel
theorem dX12_waitFor_25 : decode cX12_waitFor 25 = .ok (.iconst 1, 1) := by decide +kernel
theorem dX12_waitFor_26 : decode cX12_waitFor 26 = .ok (.iadd, 1) := by decide +kernel
theorem dX12_waitFor_27 : decode cX12_waitFor 27 = .ok (.putfield 266, 3) := by decide +kernel
theorem dX12_waitFor_30 : decode cX12_waitFor 30 = .ok (.return_, 1) := by decide +kernel
theorem dX12_opens_0 : decode cX12_opens 0 = .ok (.aload_n 0, 1) := by decide +kernel
theorem dX12_opens_1 : decode cX12_opens 1 = .ok (.getfield 279, 3) := by decide +kernel
theorem dX12_opens_4 : decode cX12_opens 4 = .ok (.bipush 8, 2) := by decide +kernel
theorem dX12_opens_6 : decode cX12_opens 6 = .ok (.if_icmp .ne 9, 3) := by decide +kernel
theorem dX12_opens_9 : decode cX12_opens 9 = .ok (.aload_n 0, 1) := by decide +kernel
theorem dX12_opens_10 : decode cX12_opens 10 = .ok (.iconst 2, 1) := by decide +kernel
theorem dX12_opens_11 : decode cX12_opens 11 = .ok (.invokevirtual 222, 3) := by decide +kernel
theorem dX12_opens_14 : decode cX12_opens 14 = .ok (.ireturn, 1) := by decide +kernel
theorem dX12_opens_15 : decode cX12_opens 15 = .ok (.aload_n 0, 1) := by decide +kernel
theorem dX12_opens_16 : decode cX12_opens 16 = .ok (.dup, 1) := by decide +kernel
theorem dX12_opens_17 : decode cX12_opens 17 = .ok (.getfield 279, 3) := by decide +kernel
theorem dX12_opens_20 : decode cX12_opens 20 = .ok (.iconst 1, 1) := by decide +kernel
theorem dX12_opens_21 : decode cX12_opens 21 = .ok (.iadd, 1) := by decide +kernel
theorem dX12_opens_22 : decode cX12_opens 22 = .ok (.putfield 279, 3) := by decide +kernel
theorem dX12_opens_25 : decode cX12_opens 25 = .ok (.aload_n 0, 1) := by decide +kernel
theorem dX12_opens_26 : decode cX12_opens 26 = .ok (.iload_n 1, 1) := by decide +kernel
theorem dX12_opens_27 : decode cX12_opens 27 = .ok (.iload_n 2, 1) := by decide +kernel
theorem dX12_opens_28 : decode cX12_opens 28 = .ok (.invokevirtual 282, 3) := by decide +kernel
theorem dX12_opens_31 : decode cX12_opens 31 = .ok (.aload_n 0, 1) := by decide +kernel
theorem dX12_opens_32 : decode cX12_opens 32 = .ok (.invokevirtual 228, 3) := by decide +kernel
theorem dX12_opens_35 : decode cX12_opens 35 = .ok (.iconst 1, 1) := by decide +kernel
theorem dX12_opens_36 : decode cX12_opens 36 = .ok (.ireturn, 1) := by decide +kernel
theorem dX12_compares_0 : decode cX12_compares 0 = .ok (.aload_n 0, 1) := by decide +kernel
theorem dX12_compares_1 : decode cX12_compares 1 = .ok (.getfield 199, 3) := by decide +kernel
theorem dX12_compares_4 : decode cX12_compares 4 = .ok (.iconst 4, 1) := by decide +kernel
theorem dX12_compares_5 : decode cX12_compares 5 = .ok (.if_icmp .ne 11, 3) := by decide +kernel
theorem dX12_compares_8 : decode cX12_compares 8 = .ok (.aload_n 0, 1) := by decide +kernel
theorem dX12_compares_9 : decode cX12_compares 9 = .ok (.getfield 209, 3) := by decide +kernel
theorem dX12_compares_12 : decode cX12_compares 12 = .ok (.iconst 5, 1) := by decide +kernel
theorem dX12_compares_13 : decode cX12_compares 13 = .ok (.if_icmp .le 9, 3) := by decide +kernel
theorem dX12_compares_16 : decode cX12_compares 16 = .ok (.aload_n 0, 1) := by decide +kernel
theorem dX12_compares_17 : decode cX12_compares 17 = .ok (.iconst 1, 1) := by decide +kernel
theorem dX12_compares_18 : decode cX12_compares 18 = .ok (.invokevirtual 222, 3) := by decide +kernel
theorem dX12_compares_21 : decode cX12_compares 21 = .ok (.ireturn, 1) := by decide +kernel
theorem dX12_compares_22 : decode cX12_compares 22 = .ok (.aload_n 0, 1) := by decide +kernel
theorem dX12_compares_23 : decode cX12_compares 23 = .ok (.getfield 96, 3) := by decide +kernel
theorem dX12_compares_26 : decode cX12_compares 26 = .ok (.iload_n 1, 1) := by decide +kernel
theorem dX12_compares_27 : decode cX12_compares 27 = .ok (.aload_n 0, 1) := by decide +kernel
theorem dX12_compares_28 : decode cX12_compares 28 = .ok (.getfield 209, 3) := by decide +kernel
theorem dX12_compares_31 : decode cX12_compares 31 = .ok (.iastore, 1) := by decide +kernel
theorem dX12_compares_32 : decode cX12_compares 32 = .ok (.aload_n 0, 1) := by decide +kernel
theorem dX12_compares_33 : decode cX12_compares 33 = .ok (.invokevirtual 228, 3) := by decide +kernel
theorem dX12_compares_36 : decode cX12_compares 36 = .ok (.aload_n 0, 1) := by decide +kernel
theorem dX12_compares_37 : decode cX12_compares 37 = .ok (.sipush 999, 3) := by decide +kernel
theorem dX12_compares_40 : decode cX12_compares 40 = .ok (.invokevirtual 237, 3) := by decide +kernel
theorem dX12_compares_43 : decode cX12_compares 43 = .ok (.ifCond .ne 5, 3) := by decide +kernel
theorem dX12_compares_46 : decode cX12_compares 46 = .ok (.iconst 0, 1) := by decide +kernel
theorem dX12_compares_47 : decode cX12_compares 47 = .ok (.ireturn, 1) := by decide +kernel
theorem dX12_compares_48 : decode cX12_compares 48 = .ok (.aload_n 0, 1) := by decide +kernel
theorem dX12_compares_49 : decode cX12_compares 49 = .ok (.getfield 99, 3) := by decide +kernel
theorem dX12_compares_52 : decode cX12_compares 52 = .ok (.iload_n 1, 1) := by decide +kernel
theorem dX12_compares_53 : decode cX12_compares 53 = .ok (.aload_n 0, 1) := by decide +kernel
theorem dX12_compares_54 : decode cX12_compares 54 = .ok (.getfield 225, 3) := by decide +kernel
theorem dX12_compares_57 : decode cX12_compares 57 = .ok (.iastore, 1) := by decide +kernel
theorem dX12_compares_58 : decode cX12_compares 58 = .ok (.iconst 1, 1) := by decide +kernel
theorem dX12_compares_59 : decode cX12_compares 59 = .ok (.ireturn, 1) := by decide +kernel
theorem dX12_valueRead_0 : decode cX12_valueRead 0 = .ok (.aload_n 0, 1) := by decide +kernel
theorem dX12_valueRead_1 : decode cX12_valueRead 1 = .ok (.bipush 40, 2) := by decide +kernel
theorem dX12_valueRead_3 : decode cX12_valueRead 3 = .ok (.invokevirtual 231, 3) := by decide +kernel
theorem dX12_valueRead_6 : decode cX12_valueRead 6 = .ok (.ifCond .eq 11, 3) := by decide +kernel
theorem dX12_valueRead_9 : decode cX12_valueRead 9 = .ok (.aload_n 0, 1) := by decide +kernel
theorem dX12_valueRead_10 : decode cX12_valueRead 10 = .ok (.bipush 100, 2) := by decide +kernel
theorem dX12_valueRead_12 : decode cX12_valueRead 12 = .ok (.iconst (-1), 1) := by decide +kernel
theorem dX12_valueRead_13 : decode cX12_valueRead 13 = .ok (.invokevirtual 286, 3) := by decide +kernel
theorem dX12_valueRead_16 : decode cX12_valueRead 16 = .ok (.ireturn, 1) := by decide +kernel
theorem dX12_valueRead_17 : decode cX12_valueRead 17 = .ok (.aload_n 0, 1) := by decide +kernel
theorem dX12_valueRead_18 : decode cX12_valueRead 18 = .ok (.getfield 199, 3) := by decide +kernel
theorem dX12_valueRead_21 : decode cX12_valueRead 21 = .ok (.iconst 1, 1) := by decide +kernel
theorem dX12_valueRead_22 : decode cX12_valueRead 22 = .ok (.if_icmp .eq 9, 3) := by decide +kernel
theorem dX12_valueRead_25 : decode cX12_valueRead 25 = .ok (.aload_n 0, 1) := by decide +kernel
theorem dX12_valueRead_26 : decode cX12_valueRead 26 = .ok (.iconst 1, 1) := by decide +kernel
theorem dX12_valueRead_27 : decode cX12_valueRead 27 = .ok (.invokevirtual 222, 3) := by decide +kernel
theorem dX12_valueRead_30 : decode cX12_valueRead 30 = .ok (.ireturn, 1) := by decide +kernel
theorem dX12_valueRead_31 : decode cX12_valueRead 31 = .ok (.aload_n 0, 1) := by decide +kernel
theorem dX12_valueRead_32 : decode cX12_valueRead 32 = .ok (.getfield 209, 3) := by decide +kernel
theorem dX12_valueRead_35 : decode cX12_valueRead 35 = .ok (.istore_n 1, 1) := by decide +kernel
theorem dX12_valueRead_36 : decode cX12_valueRead 36 = .ok (.iload_n 1, 1) := by decide +kernel
theorem dX12_valueRead_37 : decode cX12_valueRead 37 = .ok (.bipush 12, 2) := by decide +kernel
theorem dX12_valueRead_39 : decode cX12_valueRead 39 = .ok (.if_icmp .le 9, 3) := by decide +kernel
theorem dX12_valueRead_42 : decode cX12_valueRead 42 = .ok (.iload_n 1, 1) := by decide +kernel
theorem dX12_valueRead_43 : decode cX12_valueRead 43 = .ok (.bipush 23, 2) := by decide +kernel
theorem dX12_valueRead_45 : decode cX12_valueRead 45 = .ok (.if_icmp .ne 7, 3) := by decide +kernel
theorem dX12_valueRead_48 : decode cX12_valueRead 48 = .ok (.iconst 1, 1) := by decide +kernel
theorem dX12_valueRead_49 : decode cX12_valueRead 49 = .ok (.goto 4, 3) := by decide +kernel
theorem dX12_valueRead_52 : decode cX12_valueRead 52 = .ok (.iconst 0, 1) := by decide +kernel
theorem dX12_valueRead_53 : decode cX12_valueRead 53 = .ok (.istore_n 2, 1) := by decide +kernel
theorem dX12_valueRead_54 : decode cX12_valueRead 54 = .ok (.iload_n 1, 1) := by decide +kernel
theorem dX12_valueRead_55 : decode cX12_valueRead 55 = .ok (.bipush 13, 2) := by decide +kernel
theorem dX12_valueRead_57 : decode cX12_valueRead 57 = .ok (.if_icmp .eq 23, 3) := by decide +kernel
theorem dX12_valueRead_60 : decode cX12_valueRead 60 = .ok (.iload_n 1, 1) := by decide +kernel
theorem dX12_valueRead_61 : decode cX12_valueRead 61 = .ok (.bipush 14, 2) := by decide +kernel
theorem dX12_valueRead_63 : decode cX12_valueRead 63 = .ok (.if_icmp .eq 17, 3) := by decide +kernel
theorem dX12_valueRead_66 : decode cX12_valueRead 66 = .ok (.iload_n 1, 1) := by decide +kernel
theorem dX12_valueRead_67 : decode cX12_valueRead 67 = .ok (.bipush 15, 2) := by decide +kernel
theorem dX12_valueRead_69 : decode cX12_valueRead 69 = .ok (.if_icmp .eq 17, 3) := by decide +kernel
theorem dX12_valueRead_72 : decode cX12_valueRead 72 = .ok (.iload_n 2, 1) := by decide +kernel
theorem dX12_valueRead_73 : decode cX12_valueRead 73 = .ok (.aload_n 0, 1) := by decide +kernel
theorem dX12_valueRead_74 : decode cX12_valueRead 74 = .ok (.getfield 290, 3) := by decide +kernel
theorem dX12_valueRead_77 : decode cX12_valueRead 77 = .ok (.if_icmp .eq 9, 3) := by decide +kernel
theorem dX12_valueRead_80 : decode cX12_valueRead 80 = .ok (.aload_n 0, 1) := by decide +kernel
theorem dX12_valueRead_81 : decode cX12_valueRead 81 = .ok (.iconst 1, 1) := by decide +kernel
theorem dX12_valueRead_82 : decode cX12_valueRead 82 = .ok (.invokevirtual 222, 3) := by decide +kernel
theorem dX12_valueRead_85 : decode cX12_valueRead 85 = .ok (.ireturn, 1) := by decide +kernel
theorem dX12_valueRead_86 : decode cX12_valueRead 86 = .ok (.aload_n 0, 1) := by decide +kernel
theorem dX12_valueRead_87 : decode cX12_valueRead 87 = .ok (.iload_n 1, 1) := by decide +kernel
theorem dX12_valueRead_88 : decode cX12_valueRead 88 = .ok (.invokevirtual 294, 3) := by decide +kernel
theorem dX12_valueRead_91 : decode cX12_valueRead 91 = .ok (.istore_n 3, 1) := by decide +kernel
theorem dX12_valueRead_92 : decode cX12_valueRead 92 = .ok (.iload_n 3, 1) := by decide +kernel
theorem dX12_valueRead_93 : decode cX12_valueRead 93 = .ok (.ifCond .ge 5, 3) := by decide +kernel
theorem dX12_valueRead_96 : decode cX12_valueRead 96 = .ok (.iconst 0, 1) := by decide +kernel
theorem dX12_valueRead_97 : decode cX12_valueRead 97 = .ok (.ireturn, 1) := by decide +kernel
theorem dX12_valueRead_98 : decode cX12_valueRead 98 = .ok (.aload_n 0, 1) := by decide +kernel
theorem dX12_valueRead_99 : decode cX12_valueRead 99 = .ok (.invokevirtual 228, 3) := by decide +kernel
theorem dX12_valueRead_102 : decode cX12_valueRead 102 = .ok (.iload_n 1, 1) := by decide +kernel
theorem dX12_valueRead_103 : decode cX12_valueRead 103 = .ok (.bipush 15, 2) := by decide +kernel
theorem dX12_valueRead_105 : decode cX12_valueRead 105 = .ok (.if_icmp .ne 12, 3) := by decide +kernel
theorem dX12_valueRead_108 : decode cX12_valueRead 108 = .ok (.aload_n 0, 1) := by decide +kernel
theorem dX12_valueRead_109 : decode cX12_valueRead 109 = .ok (.bipush 15, 2) := by decide +kernel
theorem dX12_valueRead_111 : decode cX12_valueRead 111 = .ok (.iload_n 3, 1) := by decide +kernel
theorem dX12_valueRead_112 : decode cX12_valueRead 112 = .ok (.invokevirtual 282, 3) := by decide +kernel
theorem dX12_valueRead_115 : decode cX12_valueRead 115 = .ok (.iconst 1, 1) := by decide +kernel
theorem dX12_valueRead_116 : decode cX12_valueRead 116 = .ok (.ireturn, 1) := by decide +kernel
theorem dX12_valueRead_117 : decode cX12_valueRead 117 = .ok (.iload_n 1, 1) := by decide +kernel
theorem dX12_valueRead_118 : decode cX12_valueRead 118 = .ok (.bipush 19, 2) := by decide +kernel
theorem dX12_valueRead_120 : decode cX12_valueRead 120 = .ok (.if_icmp .ne 25, 3) := by decide +kernel
theorem dX12_valueRead_123 : decode cX12_valueRead 123 = .ok (.aload_n 0, 1) := by decide +kernel
theorem dX12_valueRead_124 : decode cX12_valueRead 124 = .ok (.sipush 999, 3) := by decide +kernel
theorem dX12_valueRead_127 : decode cX12_valueRead 127 = .ok (.invokevirtual 237, 3) := by decide +kernel
theorem dX12_valueRead_130 : decode cX12_valueRead 130 = .ok (.ifCond .ne 5, 3) := by decide +kernel
theorem dX12_valueRead_133 : decode cX12_valueRead 133 = .ok (.iconst 0, 1) := by decide +kernel
theorem dX12_valueRead_134 : decode cX12_valueRead 134 = .ok (.ireturn, 1) := by decide +kernel
theorem dX12_valueRead_135 : decode cX12_valueRead 135 = .ok (.aload_n 0, 1) := by decide +kernel
theorem dX12_valueRead_136 : decode cX12_valueRead 136 = .ok (.getfield 99, 3) := by decide +kernel
theorem dX12_valueRead_139 : decode cX12_valueRead 139 = .ok (.iload_n 3, 1) := by decide +kernel
theorem dX12_valueRead_140 : decode cX12_valueRead 140 = .ok (.aload_n 0, 1) := by decide +kernel
theorem dX12_valueRead_141 : decode cX12_valueRead 141 = .ok (.getfield 225, 3) := by decide +kernel
theorem dX12_valueRead_144 : decode cX12_valueRead 144 = .ok (.iastore, 1) := by decide +kernel
theorem dX12_valueRead_145 : decode cX12_valueRead 145 = .ok (.iload_n 1, 1) := by decide +kernel
theorem dX12_valueRead_146 : decode cX12_valueRead 146 = .ok (.bipush 17, 2) := by decide +kernel
theorem dX12_valueRead_148 : decode cX12_valueRead 148 = .ok (.if_icmp .eq 27, 3) := by decide +kernel
theorem dX12_valueRead_151 : decode cX12_valueRead 151 = .ok (.iload_n 1, 1) := by decide +kernel
theorem dX12_valueRead_152 : decode cX12_valueRead 152 = .ok (.bipush 18, 2) := by decide +kernel
theorem dX12_valueRead_154 : decode cX12_valueRead 154 = .ok (.if_icmp .eq 21, 3) := by decide +kernel
theorem dX12_valueRead_157 : decode cX12_valueRead 157 = .ok (.iload_n 1, 1) := by decide +kernel
theorem dX12_valueRead_158 : decode cX12_valueRead 158 = .ok (.bipush 19, 2) := by decide +kernel
theorem dX12_valueRead_160 : decode cX12_valueRead 160 = .ok (.if_icmp .eq 15, 3) := by decide +kernel
theorem dX12_valueRead_163 : decode cX12_valueRead 163 = .ok (.iload_n 1, 1) := by decide +kernel
theorem dX12_valueRead_164 : decode cX12_valueRead 164 = .ok (.bipush 20, 2) := by decide +kernel
theorem dX12_valueRead_166 : decode cX12_valueRead 166 = .ok (.if_icmp .eq 9, 3) := by decide +kernel
theorem dX12_valueRead_169 : decode cX12_valueRead 169 = .ok (.iload_n 1, 1) := by decide +kernel
theorem dX12_valueRead_170 : decode cX12_valueRead 170 = .ok (.bipush 21, 2) := by decide +kernel
theorem dX12_valueRead_172 : decode cX12_valueRead 172 = .ok (.if_icmp .ne 54, 3) := by decide +kernel
theorem dX12_valueRead_175 : decode cX12_valueRead 175 = .ok (.aload_n 0, 1) := by decide +kernel
theorem dX12_valueRead_176 : decode cX12_valueRead 176 = .ok (.bipush 40, 2) := by decide +kernel
theorem dX12_valueRead_178 : decode cX12_valueRead 178 = .ok (.invokevirtual 231, 3) := by decide +kernel
theorem dX12_valueRead_181 : decode cX12_valueRead 181 = .ok (.ifCond .ne 9, 3) := by decide +kernel
theorem dX12_valueRead_184 : decode cX12_valueRead 184 = .ok (.aload_n 0, 1) := by decide +kernel
theorem dX12_valueRead_185 : decode cX12_valueRead 185 = .ok (.iconst 1, 1) := by decide +kernel
theorem dX12_valueRead_186 : decode cX12_valueRead 186 = .ok (.invokevirtual 222, 3) := by decide +kernel
theorem dX12_valueRead_189 : decode cX12_valueRead 189 = .ok (.ireturn, 1) := by decide +kernel
theorem dX12_valueRead_190 : decode cX12_valueRead 190 = .ok (.aload_n 0, 1) := by decide +kernel
theorem dX12_valueRead_191 : decode cX12_valueRead 191 = .ok (.iload_n 1, 1) := by decide +kernel
theorem dX12_valueRead_192 : decode cX12_valueRead 192 = .ok (.bipush 20, 2) := by decide +kernel
theorem dX12_valueRead_194 : decode cX12_valueRead 194 = .ok (.if_icmp .eq 9, 3) := by decide +kernel
theorem dX12_valueRead_197 : decode cX12_valueRead 197 = .ok (.iload_n 1, 1) := by decide +kernel
theorem dX12_valueRead_198 : decode cX12_valueRead 198 = .ok (.bipush 21, 2) := by decide +kernel
theorem dX12_valueRead_200 : decode cX12_valueRead 200 = .ok (.if_icmp .ne 8, 3) := by decide +kernel
theorem dX12_valueRead_203 : decode cX12_valueRead 203 = .ok (.bipush 102, 2) := by decide +kernel
theorem dX12_valueRead_205 : decode cX12_valueRead 205 = .ok (.goto 5, 3) := by decide +kernel
theorem dX12_valueRead_208 : decode cX12_valueRead 208 = .ok (.bipush 101, 2) := by decide +kernel
theorem dX12_valueRead_210 : decode cX12_valueRead 210 = .ok (.iload_n 3, 1) := by decide +kernel
theorem dX12_valueRead_211 : decode cX12_valueRead 211 = .ok (.invokevirtual 286, 3) := by decide +kernel
theorem dX12_valueRead_214 : decode cX12_valueRead 214 = .ok (.ifCond .ne 5, 3) := by decide +kernel
theorem dX12_valueRead_217 : decode cX12_valueRead 217 = .ok (.iconst 0, 1) := by decide +kernel
theorem dX12_valueRead_218 : decode cX12_valueRead 218 = .ok (.ireturn, 1) := by decide +kernel
theorem dX12_valueRead_219 : decode cX12_valueRead 219 = .ok (.aload_n 0, 1) := by decide +kernel
theorem dX12_valueRead_220 : decode cX12_valueRead 220 = .ok (.iconst 1, 1) := by decide +kernel
theorem dX12_valueRead_221 : decode cX12_valueRead 221 = .ok (.putfield 290, 3) := by decide +kernel
theorem dX12_valueRead_224 : decode cX12_valueRead 224 = .ok (.iconst 1, 1) := by decide +kernel
theorem dX12_valueRead_225 : decode cX12_valueRead 225 = .ok (.ireturn, 1) := by decide +kernel
theorem dX12_valueRead_226 : decode cX12_valueRead 226 = .ok (.iload_n 1, 1) := by decide +kernel
theorem dX12_valueRead_227 : decode cX12_valueRead 227 = .ok (.bipush 22, 2) := by decide +kernel
theorem dX12_valueRead_229 : decode cX12_valueRead 229 = .ok (.if_icmp .eq 15, 3) := by decide +kernel
theorem dX12_valueRead_232 : decode cX12_valueRead 232 = .ok (.iload_n 1, 1) := by decide +kernel
theorem dX12_valueRead_233 : decode cX12_valueRead 233 = .ok (.bipush 12, 2) := by decide +kernel
theorem dX12_valueRead_235 : decode cX12_valueRead 235 = .ok (.if_icmp .eq 9, 3) := by decide +kernel
theorem dX12_valueRead_238 : decode cX12_valueRead 238 = .ok (.iload_n 1, 1) := by decide +kernel
theorem dX12_valueRead_239 : decode cX12_valueRead 239 = .ok (.bipush 23, 2) := by decide +kernel
theorem dX12_valueRead_241 : decode cX12_valueRead 241 = .ok (.if_icmp .ne 13, 3) := by decide +kernel
theorem dX12_valueRead_244 : decode cX12_valueRead 244 = .ok (.aload_n 0, 1) := by decide +kernel
theorem dX12_valueRead_245 : decode cX12_valueRead 245 = .ok (.iload_n 3, 1) := by decide +kernel
theorem dX12_valueRead_246 : decode cX12_valueRead 246 = .ok (.invokevirtual 297, 3) := by decide +kernel
theorem dX12_valueRead_249 : decode cX12_valueRead 249 = .ok (.ifCond .ne 5, 3) := by decide +kernel
theorem dX12_valueRead_252 : decode cX12_valueRead 252 = .ok (.iconst 0, 1) := by decide +kernel
theorem dX12_valueRead_253 : decode cX12_valueRead 253 = .ok (.ireturn, 1) := by decide +kernel
theorem dX12_valueRead_254 : decode cX12_valueRead 254 = .ok (.aload_n 0, 1) := by decide +kernel
theorem dX12_valueRead_255 : decode cX12_valueRead 255 = .ok (.iload_n 3, 1) := by decide +kernel
theorem dX12_valueRead_256 : decode cX12_valueRead 256 = .ok (.invokevirtual 276, 3) := by decide +kernel
theorem dX12_valueRead_259 : decode cX12_valueRead 259 = .ok (.aload_n 0, 1) := by decide +kernel
theorem dX12_valueRead_260 : decode cX12_valueRead 260 = .ok (.iconst 0, 1) := by decide +kernel
theorem dX12_valueRead_261 : decode cX12_valueRead 261 = .ok (.putfield 300, 3) := by decide +kernel
theorem dX12_valueRead_264 : decode cX12_valueRead 264 = .ok (.iconst 1, 1) := by decide +kernel
theorem dX12_valueRead_265 : decode cX12_valueRead 265 = .ok (.ireturn, 1) := by decide +kernel
theorem dX12_closes_0 : decode cX12_closes 0 = .ok (.aload_n 0, 1) := by decide +kernel
theorem dX12_closes_1 : decode cX12_closes 1 = .ok (.iconst 1, 1) := by decide +kernel
theorem dX12_closes_2 : decode cX12_closes 2 = .ok (.invokevirtual 303, 3) := by decide +kernel
theorem dX12_closes_5 : decode cX12_closes 5 = .ok (.aload_n 0, 1) := by decide +kernel
theorem dX12_closes_6 : decode cX12_closes 6 = .ok (.dup, 1) := by decide +kernel
theorem dX12_closes_7 : decode cX12_closes 7 = .ok (.getfield 266, 3) := by decide +kernel
theorem dX12_closes_10 : decode cX12_closes 10 = .ok (.iconst 1, 1) := by decide +kernel
theorem dX12_closes_11 : decode cX12_closes 11 = .ok (.isub, 1) := by decide +kernel
theorem dX12_closes_12 : decode cX12_closes 12 = .ok (.putfield 266, 3) := by decide +kernel
theorem dX12_closes_15 : decode cX12_closes 15 = .ok (.aload_n 0, 1) := by decide +kernel
theorem dX12_closes_16 : decode cX12_closes 16 = .ok (.dup, 1) := by decide +kernel
theorem dX12_closes_17 : decode cX12_closes 17 = .ok (.getfield 279, 3) := by decide +kernel
theorem dX12_closes_20 : decode cX12_closes 20 = .ok (.iconst 1, 1) := by decide +kernel
theorem dX12_closes_21 : decode cX12_closes 21 = .ok (.isub, 1) := by decide +kernel
theorem dX12_closes_22 : decode cX12_closes 22 = .ok (.putfield 279, 3) := by decide +kernel
theorem dX12_closes_25 : decode cX12_closes 25 = .ok (.aload_n 0, 1) := by decide +kernel
theorem dX12_closes_26 : decode cX12_closes 26 = .ok (.getfield 111, 3) := by decide +kernel
theorem dX12_closes_29 : decode cX12_closes 29 = .ok (.aload_n 0, 1) := by decide +kernel
theorem dX12_closes_30 : decode cX12_closes 30 = .ok (.getfield 266, 3) := by decide +kernel
theorem dX12_closes_33 : decode cX12_closes 33 = .ok (.iaload, 1) := by decide +kernel
theorem dX12_closes_34 : decode cX12_closes 34 = .ok (.istore_n 1, 1) := by decide +kernel
theorem dX12_closes_35 : decode cX12_closes 35 = .ok (.aload_n 0, 1) := by decide +kernel
theorem dX12_closes_36 : decode cX12_closes 36 = .ok (.getfield 114, 3) := by decide +kernel
theorem dX12_closes_39 : decode cX12_closes 39 = .ok (.aload_n 0, 1) := by decide +kernel
theorem dX12_closes_40 : decode cX12_closes 40 = .ok (.getfield 266, 3) := by decide +kernel
theorem dX12_closes_43 : decode cX12_closes 43 = .ok (.iaload, 1) := by decide +kernel
theorem dX12_closes_44 : decode cX12_closes 44 = .ok (.istore_n 2, 1) := by decide +kernel
theorem dX12_closes_45 : decode cX12_closes 45 = .ok (.aload_n 0, 1) := by decide +kernel
theorem dX12_closes_46 : decode cX12_closes 46 = .ok (.invokevirtual 228, 3) := by decide +kernel
theorem dX12_closes_49 : decode cX12_closes 49 = .ok (.iload_n 1, 1) := by decide +kernel
theorem dX12_closes_50 : decode cX12_closes 50 = .ok (.bipush 100, 2) := by decide +kernel
theorem dX12_closes_52 : decode cX12_closes 52 = .ok (.if_icmp .ne 5, 3) := by decide +kernel
theorem dX12_closes_55 : decode cX12_closes 55 = .ok (.iconst 1, 1) := by decide +kernel
theorem dX12_closes_56 : decode cX12_closes 56 = .ok (.ireturn, 1) := by decide +kernel
theorem dX12_closes_57 : decode cX12_closes 57 = .ok (.aload_n 0, 1) := by decide +kernel
theorem dX12_closes_58 : decode cX12_closes 58 = .ok (.getfield 102, 3) := by decide +kernel
theorem dX12_closes_61 : decode cX12_closes 61 = .ok (.iload_n 2, 1) := by decide +kernel
theorem dX12_closes_62 : decode cX12_closes 62 = .ok (.aload_n 0, 1) := by decide +kernel
theorem dX12_closes_63 : decode cX12_closes 63 = .ok (.invokevirtual 272, 3) := by decide +kernel
theorem dX12_closes_66 : decode cX12_closes 66 = .ok (.iastore, 1) := by decide +kernel
theorem dX12_closes_67 : decode cX12_closes 67 = .ok (.aload_n 0, 1) := by decide +kernel
theorem dX12_closes_68 : decode cX12_closes 68 = .ok (.iconst 0, 1) := by decide +kernel
theorem dX12_closes_69 : decode cX12_closes 69 = .ok (.putfield 290, 3) := by decide +kernel
theorem dX12_closes_72 : decode cX12_closes 72 = .ok (.iload_n 1, 1) := by decide +kernel
theorem dX12_closes_73 : decode cX12_closes 73 = .ok (.bipush 102, 2) := by decide +kernel
theorem dX12_closes_75 : decode cX12_closes 75 = .ok (.if_icmp .ne 13, 3) := by decide +kernel
theorem dX12_closes_78 : decode cX12_closes 78 = .ok (.aload_n 0, 1) := by decide +kernel
theorem dX12_closes_79 : decode cX12_closes 79 = .ok (.iload_n 2, 1) := by decide +kernel
theorem dX12_closes_80 : decode cX12_closes 80 = .ok (.invokevirtual 297, 3) := by decide +kernel
theorem dX12_closes_83 : decode cX12_closes 83 = .ok (.ifCond .ne 5, 3) := by decide +kernel
theorem dX12_closes_86 : decode cX12_closes 86 = .ok (.iconst 0, 1) := by decide +kernel
theorem dX12_closes_87 : decode cX12_closes 87 = .ok (.ireturn, 1) := by decide +kernel
theorem dX12_closes_88 : decode cX12_closes 88 = .ok (.aload_n 0, 1) := by decide +kernel
theorem dX12_closes_89 : decode cX12_closes 89 = .ok (.iload_n 2, 1) := by decide +kernel
theorem dX12_closes_90 : decode cX12_closes 90 = .ok (.invokevirtual 276, 3) := by decide +kernel
theorem dX12_closes_93 : decode cX12_closes 93 = .ok (.iconst 1, 1) := by decide +kernel
theorem dX12_closes_94 : decode cX12_closes 94 = .ok (.ireturn, 1) := by decide +kernel
theorem dX12_joins_0 : decode cX12_joins 0 = .ok (.aload_n 0, 1) := by decide +kernel
theorem dX12_joins_1 : decode cX12_joins 1 = .ok (.iload_n 1, 1) := by decide +kernel
theorem dX12_joins_2 : decode cX12_joins 2 = .ok (.invokevirtual 294, 3) := by decide +kernel
theorem dX12_joins_5 : decode cX12_joins 5 = .ok (.istore_n 2, 1) := by decide +kernel
theorem dX12_joins_6 : decode cX12_joins 6 = .ok (.iload_n 2, 1) := by decide +kernel
theorem dX12_joins_7 : decode cX12_joins 7 = .ok (.ifCond .ge 5, 3) := by decide +kernel
theorem dX12_joins_10 : decode cX12_joins 10 = .ok (.iconst 0, 1) := by decide +kernel
theorem dX12_joins_11 : decode cX12_joins 11 = .ok (.ireturn, 1) := by decide +kernel
theorem dX12_joins_12 : decode cX12_joins 12 = .ok (.aload_n 0, 1) := by decide +kernel
theorem dX12_joins_13 : decode cX12_joins 13 = .ok (.iload_n 1, 1) := by decide +kernel
theorem dX12_joins_14 : decode cX12_joins 14 = .ok (.invokestatic 269, 3) := by decide +kernel
theorem dX12_joins_17 : decode cX12_joins 17 = .ok (.invokevirtual 303, 3) := by decide +kernel
theorem dX12_joins_20 : decode cX12_joins 20 = .ok (.aload_n 0, 1) := by decide +kernel
theorem dX12_joins_21 : decode cX12_joins 21 = .ok (.iload_n 1, 1) := by decide +kernel
theorem dX12_joins_22 : decode cX12_joins 22 = .ok (.iload_n 2, 1) := by decide +kernel
theorem dX12_joins_23 : decode cX12_joins 23 = .ok (.invokevirtual 282, 3) := by decide +kernel
theorem dX12_joins_26 : decode cX12_joins 26 = .ok (.aload_n 0, 1) := by decide +kernel
theorem dX12_joins_27 : decode cX12_joins 27 = .ok (.iconst 1, 1) := by decide +kernel
theorem dX12_joins_28 : decode cX12_joins 28 = .ok (.putfield 300, 3) := by decide +kernel
theorem dX12_joins_31 : decode cX12_joins 31 = .ok (.aload_n 0, 1) := by decide +kernel
theorem dX12_joins_32 : decode cX12_joins 32 = .ok (.invokevirtual 228, 3) := by decide +kernel
theorem dX12_joins_35 : decode cX12_joins 35 = .ok (.iconst 1, 1) := by decide +kernel
theorem dX12_joins_36 : decode cX12_joins 36 = .ok (.ireturn, 1) := by decide +kernel
theorem dX12_expression_0 : decode cX12_expression 0 = .ok (.aload_n 0, 1) := by decide +kernel
theorem dX12_expression_1 : decode cX12_expression 1 = .ok (.iconst 0, 1) := by decide +kernel
theorem dX12_expression_2 : decode cX12_expression 2 = .ok (.putfield 266, 3) := by decide +kernel
theorem dX12_expression_5 : decode cX12_expression 5 = .ok (.aload_n 0, 1) := by decide +kernel
theorem dX12_expression_6 : decode cX12_expression 6 = .ok (.iconst 0, 1) := by decide +kernel
theorem dX12_expression_7 : decode cX12_expression 7 = .ok (.putfield 257, 3) := by decide +kernel
theorem dX12_expression_10 : decode cX12_expression 10 = .ok (.aload_n 0, 1) := by decide +kernel
theorem dX12_expression_11 : decode cX12_expression 11 = .ok (.iconst 0, 1) := by decide +kernel
theorem dX12_expression_12 : decode cX12_expression 12 = .ok (.putfield 279, 3) := by decide +kernel
theorem dX12_expression_15 : decode cX12_expression 15 = .ok (.aload_n 0, 1) := by decide +kernel
theorem dX12_expression_16 : decode cX12_expression 16 = .ok (.iconst 0, 1) := by decide +kernel
theorem dX12_expression_17 : decode cX12_expression 17 = .ok (.putfield 290, 3) := by decide +kernel
theorem dX12_expression_20 : decode cX12_expression 20 = .ok (.aload_n 0, 1) := by decide +kernel
theorem dX12_expression_21 : decode cX12_expression 21 = .ok (.iconst 1, 1) := by decide +kernel
theorem dX12_expression_22 : decode cX12_expression 22 = .ok (.putfield 300, 3) := by decide +kernel
theorem dX12_expression_25 : decode cX12_expression 25 = .ok (.iconst 1, 1) := by decide +kernel
theorem dX12_expression_26 : decode cX12_expression 26 = .ok (.istore_n 1, 1) := by decide +kernel
theorem dX12_expression_27 : decode cX12_expression 27 = .ok (.aload_n 0, 1) := by decide +kernel
theorem dX12_expression_28 : decode cX12_expression 28 = .ok (.getfield 300, 3) := by decide +kernel
theorem dX12_expression_31 : decode cX12_expression 31 = .ok (.ifCond .eq 11, 3) := by decide +kernel
theorem dX12_expression_34 : decode cX12_expression 34 = .ok (.aload_n 0, 1) := by decide +kernel
theorem dX12_expression_35 : decode cX12_expression 35 = .ok (.invokevirtual 306, 3) := by decide +kernel
theorem dX12_expression_38 : decode cX12_expression 38 = .ok (.istore_n 1, 1) := by decide +kernel
theorem dX12_expression_39 : decode cX12_expression 39 = .ok (.goto 72, 3) := by decide +kernel
theorem dX12_expression_42 : decode cX12_expression 42 = .ok (.aload_n 0, 1) := by decide +kernel
theorem dX12_expression_43 : decode cX12_expression 43 = .ok (.bipush 13, 2) := by decide +kernel
theorem dX12_expression_45 : decode cX12_expression 45 = .ok (.invokevirtual 234, 3) := by decide +kernel
theorem dX12_expression_48 : decode cX12_expression 48 = .ok (.ifCond .ne 12, 3) := by decide +kernel
theorem dX12_expression_51 : decode cX12_expression 51 = .ok (.aload_n 0, 1) := by decide +kernel
theorem dX12_expression_52 : decode cX12_expression 52 = .ok (.bipush 14, 2) := by decide +kernel
theorem dX12_expression_54 : decode cX12_expression 54 = .ok (.invokevirtual 234, 3) := by decide +kernel
theorem dX12_expression_57 : decode cX12_expression 57 = .ok (.ifCond .eq 15, 3) := by decide +kernel
theorem dX12_expression_60 : decode cX12_expression 60 = .ok (.aload_n 0, 1) := by decide +kernel
theorem dX12_expression_61 : decode cX12_expression 61 = .ok (.aload_n 0, 1) := by decide +kernel
theorem dX12_expression_62 : decode cX12_expression 62 = .ok (.getfield 209, 3) := by decide +kernel
theorem dX12_expression_65 : decode cX12_expression 65 = .ok (.invokevirtual 309, 3) := by decide +kernel
theorem dX12_expression_68 : decode cX12_expression 68 = .ok (.istore_n 1, 1) := by decide +kernel
theorem dX12_expression_69 : decode cX12_expression 69 = .ok (.goto 42, 3) := by decide +kernel
theorem dX12_expression_72 : decode cX12_expression 72 = .ok (.aload_n 0, 1) := by decide +kernel
theorem dX12_expression_73 : decode cX12_expression 73 = .ok (.getfield 279, 3) := by decide +kernel
theorem dX12_expression_76 : decode cX12_expression 76 = .ok (.ifCond .le 28, 3) := by decide +kernel
theorem dX12_expression_79 : decode cX12_expression 79 = .ok (.aload_n 0, 1) := by decide +kernel
theorem dX12_expression_80 : decode cX12_expression 80 = .ok (.bipush 41, 2) := by decide +kernel
theorem dX12_expression_82 : decode cX12_expression 82 = .ok (.invokevirtual 231, 3) := by decide +kernel
theorem dX12_expression_85 : decode cX12_expression 85 = .ok (.ifCond .eq 10, 3) := by decide +kernel
theorem dX12_expression_88 : decode cX12_expression 88 = .ok (.aload_n 0, 1) := by decide +kernel
theorem dX12_expression_89 : decode cX12_expression 89 = .ok (.invokevirtual 312, 3) := by decide +kernel
theorem dX12_expression_92 : decode cX12_expression 92 = .ok (.goto 8, 3) := by decide +kernel
theorem dX12_expression_95 : decode cX12_expression 95 = .ok (.aload_n 0, 1) := by decide +kernel
theorem dX12_expression_96 : decode cX12_expression 96 = .ok (.iconst 1, 1) := by decide +kernel
theorem dX12_expression_97 : decode cX12_expression 97 = .ok (.invokevirtual 222, 3) := by decide +kernel
theorem dX12_expression_100 : decode cX12_expression 100 = .ok (.istore_n 1, 1) := by decide +kernel
theorem dX12_expression_101 : decode cX12_expression 101 = .ok (.goto 10, 3) := by decide +kernel
theorem dX12_expression_104 : decode cX12_expression 104 = .ok (.aload_n 0, 1) := by decide +kernel
theorem dX12_expression_105 : decode cX12_expression 105 = .ok (.iconst 1, 1) := by decide +kernel
theorem dX12_expression_106 : decode cX12_expression 106 = .ok (.invokevirtual 303, 3) := by decide +kernel
theorem dX12_expression_109 : decode cX12_expression 109 = .ok (.iconst 1, 1) := by decide +kernel
theorem dX12_expression_110 : decode cX12_expression 110 = .ok (.ireturn, 1) := by decide +kernel
theorem dX12_expression_111 : decode cX12_expression 111 = .ok (.iload_n 1, 1) := by decide +kernel
theorem dX12_expression_112 : decode cX12_expression 112 = .ok (.ifCond .ne 5, 3) := by decide +kernel
theorem dX12_expression_115 : decode cX12_expression 115 = .ok (.iconst 0, 1) := by decide +kernel
theorem dX12_expression_116 : decode cX12_expression 116 = .ok (.ireturn, 1) := by decide +kernel
theorem dX12_expression_117 : decode cX12_expression 117 = .ok (.goto (-92), 3) := by decide +kernel
theorem dX12_kindAt_0 : decode cX12_kindAt 0 = .ok (.iconst 0, 1) := by decide +kernel
theorem dX12_kindAt_1 : decode cX12_kindAt 1 = .ok (.istore_n 1, 1) := by decide +kernel
theorem dX12_kindAt_2 : decode cX12_kindAt 2 = .ok (.iload_n 1, 1) := by decide +kernel
theorem dX12_kindAt_3 : decode cX12_kindAt 3 = .ok (.aload_n 0, 1) := by decide +kernel
theorem dX12_kindAt_4 : decode cX12_kindAt 4 = .ok (.getfield 315, 3) := by decide +kernel
theorem dX12_kindAt_7 : decode cX12_kindAt 7 = .ok (.if_icmp .ge 101, 3) := by decide +kernel
theorem dX12_kindAt_10 : decode cX12_kindAt 10 = .ok (.aload_n 0, 1) := by decide +kernel
theorem dX12_kindAt_11 : decode cX12_kindAt 11 = .ok (.getfield 81, 3) := by decide +kernel
theorem dX12_kindAt_14 : decode cX12_kindAt 14 = .ok (.bipush 8, 2) := by decide +kernel
theorem dX12_kindAt_16 : decode cX12_kindAt 16 = .ok (.iload_n 1, 1) := by decide +kernel
theorem dX12_kindAt_17 : decode cX12_kindAt 17 = .ok (.iadd, 1) := by decide +kernel
theorem dX12_kindAt_18 : decode cX12_kindAt 18 = .ok (.iaload, 1) := by decide +kernel
theorem dX12_kindAt_19 : decode cX12_kindAt 19 = .ok (.aload_n 0, 1) := by decide +kernel
theorem dX12_kindAt_20 : decode cX12_kindAt 20 = .ok (.getfield 219, 3) := by decide +kernel
theorem dX12_kindAt_23 : decode cX12_kindAt 23 = .ok (.aload_n 0, 1) := by decide +kernel
theorem dX12_kindAt_24 : decode cX12_kindAt 24 = .ok (.getfield 187, 3) := by decide +kernel
theorem dX12_kindAt_27 : decode cX12_kindAt 27 = .ok (.isub, 1) := by decide +kernel
theorem dX12_kindAt_28 : decode cX12_kindAt 28 = .ok (.if_icmp .ne 7, 3) := by decide +kernel
theorem dX12_kindAt_31 : decode cX12_kindAt 31 = .ok (.iconst 1, 1) := by decide +kernel
theorem dX12_kindAt_32 : decode cX12_kindAt 32 = .ok (.goto 4, 3) := by decide +kernel
theorem dX12_kindAt_35 : decode cX12_kindAt 35 = .ok (.iconst 0, 1) := by decide +kernel
theorem dX12_kindAt_36 : decode cX12_kindAt 36 = .ok (.istore_n 2, 1) := by decide +kernel
theorem dX12_kindAt_37 : decode cX12_kindAt 37 = .ok (.iconst 0, 1) := by decide +kernel
theorem dX12_kindAt_38 : decode cX12_kindAt 38 = .ok (.istore_n 3, 1) := by decide +kernel
theorem dX12_kindAt_39 : decode cX12_kindAt 39 = .ok (.iload_n 3, 1) := by decide +kernel
theorem dX12_kindAt_40 : decode cX12_kindAt 40 = .ok (.aload_n 0, 1) := by decide +kernel
theorem dX12_kindAt_41 : decode cX12_kindAt 41 = .ok (.getfield 81, 3) := by decide +kernel
theorem dX12_kindAt_44 : decode cX12_kindAt 44 = .ok (.bipush 8, 2) := by decide +kernel
theorem dX12_kindAt_46 : decode cX12_kindAt 46 = .ok (.iload_n 1, 1) := by decide +kernel
theorem dX12_kindAt_47 : decode cX12_kindAt 47 = .ok (.iadd, 1) := by decide +kernel
theorem dX12_kindAt_48 : decode cX12_kindAt 48 = .ok (.iaload, 1) := by decide +kernel
theorem dX12_kindAt_49 : decode cX12_kindAt 49 = .ok (.if_icmp .ge 47, 3) := by decide +kernel
theorem dX12_kindAt_52 : decode cX12_kindAt 52 = .ok (.iload_n 2, 1) := by decide +kernel
theorem dX12_kindAt_53 : decode cX12_kindAt 53 = .ok (.ifCond .eq 43, 3) := by decide +kernel
theorem dX12_kindAt_56 : decode cX12_kindAt 56 = .ok (.aload_n 0, 1) := by decide +kernel
theorem dX12_kindAt_57 : decode cX12_kindAt 57 = .ok (.getfield 78, 3) := by decide +kernel
theorem dX12_kindAt_60 : decode cX12_kindAt 60 = .ok (.bipush 64, 2) := by decide +kernel
theorem dX12_kindAt_62 : decode cX12_kindAt 62 = .ok (.bipush 8, 2) := by decide +kernel
theorem dX12_kindAt_64 : decode cX12_kindAt 64 = .ok (.iload_n 1, 1) := by decide +kernel
theorem dX12_kindAt_65 : decode cX12_kindAt 65 = .ok (.imul, 1) := by decide +kernel
theorem dX12_kindAt_66 : decode cX12_kindAt 66 = .ok (.iadd, 1) := by decide +kernel
theorem dX12_kindAt_67 : decode cX12_kindAt 67 = .ok (.iload_n 3, 1) := by decide +kernel
theorem dX12_kindAt_68 : decode cX12_kindAt 68 = .ok (.iadd, 1) := by decide +kernel
theorem dX12_kindAt_69 : decode cX12_kindAt 69 = .ok (.iaload, 1) := by decide +kernel
theorem dX12_kindAt_70 : decode cX12_kindAt 70 = .ok (.aload_n 0, 1) := by decide +kernel
theorem dX12_kindAt_71 : decode cX12_kindAt 71 = .ok (.getfield 7, 3) := by decide +kernel
theorem dX12_kindAt_74 : decode cX12_kindAt 74 = .ok (.aload_n 0, 1) := by decide +kernel
theorem dX12_kindAt_75 : decode cX12_kindAt 75 = .ok (.getfield 187, 3) := by decide +kernel
theorem dX12_kindAt_78 : decode cX12_kindAt 78 = .ok (.iload_n 3, 1) := by decide +kernel
theorem dX12_kindAt_79 : decode cX12_kindAt 79 = .ok (.iadd, 1) := by decide +kernel
theorem dX12_kindAt_80 : decode cX12_kindAt 80 = .ok (.iaload, 1) := by decide +kernel
theorem dX12_kindAt_81 : decode cX12_kindAt 81 = .ok (.if_icmp .ne 7, 3) := by decide +kernel
theorem dX12_kindAt_84 : decode cX12_kindAt 84 = .ok (.iconst 1, 1) := by decide +kernel
theorem dX12_kindAt_85 : decode cX12_kindAt 85 = .ok (.goto 4, 3) := by decide +kernel
theorem dX12_kindAt_88 : decode cX12_kindAt 88 = .ok (.iconst 0, 1) := by decide +kernel
theorem dX12_kindAt_89 : decode cX12_kindAt 89 = .ok (.istore_n 2, 1) := by decide +kernel
theorem dX12_kindAt_90 : decode cX12_kindAt 90 = .ok (.iinc 3 1, 3) := by decide +kernel
theorem dX12_kindAt_93 : decode cX12_kindAt 93 = .ok (.goto (-54), 3) := by decide +kernel
theorem dX12_kindAt_96 : decode cX12_kindAt 96 = .ok (.iload_n 2, 1) := by decide +kernel
theorem dX12_kindAt_97 : decode cX12_kindAt 97 = .ok (.ifCond .eq 5, 3) := by decide +kernel
theorem dX12_kindAt_100 : decode cX12_kindAt 100 = .ok (.iload_n 1, 1) := by decide +kernel
theorem dX12_kindAt_101 : decode cX12_kindAt 101 = .ok (.ireturn, 1) := by decide +kernel
theorem dX12_kindAt_102 : decode cX12_kindAt 102 = .ok (.iinc 1 1, 3) := by decide +kernel
theorem dX12_kindAt_105 : decode cX12_kindAt 105 = .ok (.goto (-103), 3) := by decide +kernel
theorem dX12_kindAt_108 : decode cX12_kindAt 108 = .ok (.aload_n 0, 1) := by decide +kernel
theorem dX12_kindAt_109 : decode cX12_kindAt 109 = .ok (.getfield 315, 3) := by decide +kernel
theorem dX12_kindAt_112 : decode cX12_kindAt 112 = .ok (.bipush 8, 2) := by decide +kernel
theorem dX12_kindAt_114 : decode cX12_kindAt 114 = .ok (.if_icmp .ne 5, 3) := by decide +kernel
theorem dX12_kindAt_117 : decode cX12_kindAt 117 = .ok (.iconst (-1), 1) := by decide +kernel
theorem dX12_kindAt_118 : decode cX12_kindAt 118 = .ok (.ireturn, 1) := by decide +kernel
theorem dX12_kindAt_119 : decode cX12_kindAt 119 = .ok (.aload_n 0, 1) := by decide +kernel
theorem dX12_kindAt_120 : decode cX12_kindAt 120 = .ok (.getfield 81, 3) := by decide +kernel
theorem dX12_kindAt_123 : decode cX12_kindAt 123 = .ok (.bipush 8, 2) := by decide +kernel
theorem dX12_kindAt_125 : decode cX12_kindAt 125 = .ok (.aload_n 0, 1) := by decide +kernel
theorem dX12_kindAt_126 : decode cX12_kindAt 126 = .ok (.getfield 315, 3) := by decide +kernel
theorem dX12_kindAt_129 : decode cX12_kindAt 129 = .ok (.iadd, 1) := by decide +kernel
theorem dX12_kindAt_130 : decode cX12_kindAt 130 = .ok (.aload_n 0, 1) := by decide +kernel
theorem dX12_kindAt_131 : decode cX12_kindAt 131 = .ok (.getfield 219, 3) := by decide +kernel
theorem dX12_kindAt_134 : decode cX12_kindAt 134 = .ok (.aload_n 0, 1) := by decide +kernel
theorem dX12_kindAt_135 : decode cX12_kindAt 135 = .ok (.getfield 187, 3) := by decide +kernel
theorem dX12_kindAt_138 : decode cX12_kindAt 138 = .ok (.isub, 1) := by decide +kernel
theorem dX12_kindAt_139 : decode cX12_kindAt 139 = .ok (.iastore, 1) := by decide +kernel
theorem dX12_kindAt_140 : decode cX12_kindAt 140 = .ok (.iconst 0, 1) := by decide +kernel
theorem dX12_kindAt_141 : decode cX12_kindAt 141 = .ok (.istore_n 1, 1) := by decide +kernel
theorem dX12_kindAt_142 : decode cX12_kindAt 142 = .ok (.iload_n 1, 1) := by decide +kernel
theorem dX12_kindAt_143 : decode cX12_kindAt 143 = .ok (.aload_n 0, 1) := by decide +kernel
theorem dX12_kindAt_144 : decode cX12_kindAt 144 = .ok (.getfield 219, 3) := by decide +kernel
theorem dX12_kindAt_147 : decode cX12_kindAt 147 = .ok (.aload_n 0, 1) := by decide +kernel
theorem dX12_kindAt_148 : decode cX12_kindAt 148 = .ok (.getfield 187, 3) := by decide +kernel
theorem dX12_kindAt_151 : decode cX12_kindAt 151 = .ok (.isub, 1) := by decide +kernel
theorem dX12_kindAt_152 : decode cX12_kindAt 152 = .ok (.if_icmp .ge 37, 3) := by decide +kernel
theorem dX12_kindAt_155 : decode cX12_kindAt 155 = .ok (.aload_n 0, 1) := by decide +kernel
theorem dX12_kindAt_156 : decode cX12_kindAt 156 = .ok (.getfield 78, 3) := by decide +kernel
theorem dX12_kindAt_159 : decode cX12_kindAt 159 = .ok (.bipush 64, 2) := by decide +kernel
theorem dX12_kindAt_161 : decode cX12_kindAt 161 = .ok (.bipush 8, 2) := by decide +kernel
theorem dX12_kindAt_163 : decode cX12_kindAt 163 = .ok (.aload_n 0, 1) := by decide +kernel
theorem dX12_kindAt_164 : decode cX12_kindAt 164 = .ok (.getfield 315, 3) := by decide +kernel
theorem dX12_kindAt_167 : decode cX12_kindAt 167 = .ok (.imul, 1) := by decide +kernel
theorem dX12_kindAt_168 : decode cX12_kindAt 168 = .ok (.iadd, 1) := by decide +kernel
theorem dX12_kindAt_169 : decode cX12_kindAt 169 = .ok (.iload_n 1, 1) := by decide +kernel
theorem dX12_kindAt_170 : decode cX12_kindAt 170 = .ok (.iadd, 1) := by decide +kernel
theorem dX12_kindAt_171 : decode cX12_kindAt 171 = .ok (.aload_n 0, 1) := by decide +kernel
theorem dX12_kindAt_172 : decode cX12_kindAt 172 = .ok (.getfield 7, 3) := by decide +kernel
theorem dX12_kindAt_175 : decode cX12_kindAt 175 = .ok (.aload_n 0, 1) := by decide +kernel
theorem dX12_kindAt_176 : decode cX12_kindAt 176 = .ok (.getfield 187, 3) := by decide +kernel
theorem dX12_kindAt_179 : decode cX12_kindAt 179 = .ok (.iload_n 1, 1) := by decide +kernel
theorem dX12_kindAt_180 : decode cX12_kindAt 180 = .ok (.iadd, 1) := by decide +kernel
theorem dX12_kindAt_181 : decode cX12_kindAt 181 = .ok (.iaload, 1) := by decide +kernel
theorem dX12_kindAt_182 : decode cX12_kindAt 182 = .ok (.iastore, 1) := by decide +kernel
theorem dX12_kindAt_183 : decode cX12_kindAt 183 = .ok (.iinc 1 1, 3) := by decide +kernel
theorem dX12_kindAt_186 : decode cX12_kindAt 186 = .ok (.goto (-44), 3) := by decide +kernel
theorem dX12_kindAt_189 : decode cX12_kindAt 189 = .ok (.aload_n 0, 1) := by decide +kernel
theorem dX12_kindAt_190 : decode cX12_kindAt 190 = .ok (.dup, 1) := by decide +kernel
theorem dX12_kindAt_191 : decode cX12_kindAt 191 = .ok (.getfield 315, 3) := by decide +kernel
theorem dX12_kindAt_194 : decode cX12_kindAt 194 = .ok (.iconst 1, 1) := by decide +kernel
theorem dX12_kindAt_195 : decode cX12_kindAt 195 = .ok (.iadd, 1) := by decide +kernel
theorem dX12_kindAt_196 : decode cX12_kindAt 196 = .ok (.putfield 315, 3) := by decide +kernel
theorem dX12_kindAt_199 : decode cX12_kindAt 199 = .ok (.aload_n 0, 1) := by decide +kernel
theorem dX12_kindAt_200 : decode cX12_kindAt 200 = .ok (.getfield 315, 3) := by decide +kernel
theorem dX12_kindAt_203 : decode cX12_kindAt 203 = .ok (.iconst 1, 1) := by decide +kernel
theorem dX12_kindAt_204 : decode cX12_kindAt 204 = .ok (.isub, 1) := by decide +kernel
theorem dX12_kindAt_205 : decode cX12_kindAt 205 = .ok (.ireturn, 1) := by decide +kernel
theorem dX12_lineRead_0 : decode cX12_lineRead 0 = .ok (.aload_n 0, 1) := by decide +kernel
theorem dX12_lineRead_1 : decode cX12_lineRead 1 = .ok (.getfield 199, 3) := by decide +kernel
theorem dX12_lineRead_4 : decode cX12_lineRead 4 = .ok (.iconst 2, 1) := by decide +kernel
theorem dX12_lineRead_5 : decode cX12_lineRead 5 = .ok (.if_icmp .eq 9, 3) := by decide +kernel
theorem dX12_lineRead_8 : decode cX12_lineRead 8 = .ok (.aload_n 0, 1) := by decide +kernel
theorem dX12_lineRead_9 : decode cX12_lineRead 9 = .ok (.iconst 1, 1) := by decide +kernel
theorem dX12_lineRead_10 : decode cX12_lineRead 10 = .ok (.invokevirtual 222, 3) := by decide +kernel
theorem dX12_lineRead_13 : decode cX12_lineRead 13 = .ok (.ireturn, 1) := by decide +kernel
theorem dX12_lineRead_14 : decode cX12_lineRead 14 = .ok (.aload_n 0, 1) := by decide +kernel
theorem dX12_lineRead_15 : decode cX12_lineRead 15 = .ok (.getfield 318, 3) := by decide +kernel
theorem dX12_lineRead_18 : decode cX12_lineRead 18 = .ok (.bipush 16, 2) := by decide +kernel
theorem dX12_lineRead_20 : decode cX12_lineRead 20 = .ok (.if_icmp .ne 9, 3) := by decide +kernel
theorem dX12_lineRead_23 : decode cX12_lineRead 23 = .ok (.aload_n 0, 1) := by decide +kernel
theorem dX12_lineRead_24 : decode cX12_lineRead 24 = .ok (.iconst 2, 1) := by decide +kernel
theorem dX12_lineRead_25 : decode cX12_lineRead 25 = .ok (.invokevirtual 222, 3) := by decide +kernel
theorem dX12_lineRead_28 : decode cX12_lineRead 28 = .ok (.ireturn, 1) := by decide +kernel
theorem dX12_lineRead_29 : decode cX12_lineRead 29 = .ok (.aload_n 0, 1) := by decide +kernel
theorem dX12_lineRead_30 : decode cX12_lineRead 30 = .ok (.invokevirtual 321, 3) := by decide +kernel
theorem dX12_lineRead_33 : decode cX12_lineRead 33 = .ok (.istore_n 1, 1) := by decide +kernel
theorem dX12_lineRead_34 : decode cX12_lineRead 34 = .ok (.iload_n 1, 1) := by decide +kernel
theorem dX12_lineRead_35 : decode cX12_lineRead 35 = .ok (.ifCond .ge 9, 3) := by decide +kernel
theorem dX12_lineRead_38 : decode cX12_lineRead 38 = .ok (.aload_n 0, 1) := by decide +kernel
theorem dX12_lineRead_39 : decode cX12_lineRead 39 = .ok (.iconst 2, 1) := by decide +kernel
theorem dX12_lineRead_40 : decode cX12_lineRead 40 = .ok (.invokevirtual 222, 3) := by decide +kernel
theorem dX12_lineRead_43 : decode cX12_lineRead 43 = .ok (.ireturn, 1) := by decide +kernel
theorem dX12_lineRead_44 : decode cX12_lineRead 44 = .ok (.bipush 16, 2) := by decide +kernel
theorem dX12_lineRead_46 : decode cX12_lineRead 46 = .ok (.aload_n 0, 1) := by decide +kernel
theorem dX12_lineRead_47 : decode cX12_lineRead 47 = .ok (.getfield 318, 3) := by decide +kernel
theorem dX12_lineRead_50 : decode cX12_lineRead 50 = .ok (.iadd, 1) := by decide +kernel
theorem dX12_lineRead_51 : decode cX12_lineRead 51 = .ok (.istore_n 2, 1) := by decide +kernel
theorem dX12_lineRead_52 : decode cX12_lineRead 52 = .ok (.aload_n 0, 1) := by decide +kernel
theorem dX12_lineRead_53 : decode cX12_lineRead 53 = .ok (.getfield 84, 3) := by decide +kernel
theorem dX12_lineRead_56 : decode cX12_lineRead 56 = .ok (.iload_n 2, 1) := by decide +kernel
theorem dX12_lineRead_57 : decode cX12_lineRead 57 = .ok (.iload_n 1, 1) := by decide +kernel
theorem dX12_lineRead_58 : decode cX12_lineRead 58 = .ok (.iastore, 1) := by decide +kernel
theorem dX12_lineRead_59 : decode cX12_lineRead 59 = .ok (.aload_n 0, 1) := by decide +kernel
theorem dX12_lineRead_60 : decode cX12_lineRead 60 = .ok (.getfield 87, 3) := by decide +kernel
theorem dX12_lineRead_63 : decode cX12_lineRead 63 = .ok (.iload_n 2, 1) := by decide +kernel
theorem dX12_lineRead_64 : decode cX12_lineRead 64 = .ok (.aload_n 0, 1) := by decide +kernel
theorem dX12_lineRead_65 : decode cX12_lineRead 65 = .ok (.getfield 260, 3) := by decide +kernel
theorem dX12_lineRead_68 : decode cX12_lineRead 68 = .ok (.iastore, 1) := by decide +kernel
theorem dX12_lineRead_69 : decode cX12_lineRead 69 = .ok (.aload_n 0, 1) := by decide +kernel
theorem dX12_lineRead_70 : decode cX12_lineRead 70 = .ok (.invokevirtual 228, 3) := by decide +kernel
theorem dX12_lineRead_73 : decode cX12_lineRead 73 = .ok (.aload_n 0, 1) := by decide +kernel
theorem dX12_lineRead_74 : decode cX12_lineRead 74 = .ok (.bipush 58, 2) := by decide +kernel
theorem dX12_lineRead_76 : decode cX12_lineRead 76 = .ok (.invokevirtual 231, 3) := by decide +kernel
theorem dX12_lineRead_79 : decode cX12_lineRead 79 = .ok (.ifCond .ne 9, 3) := by decide +kernel
theorem dX12_lineRead_82 : decode cX12_lineRead 82 = .ok (.aload_n 0, 1) := by decide +kernel
theorem dX12_lineRead_83 : decode cX12_lineRead 83 = .ok (.iconst 1, 1) := by decide +kernel
theorem dX12_lineRead_84 : decode cX12_lineRead 84 = .ok (.invokevirtual 222, 3) := by decide +kernel
theorem dX12_lineRead_87 : decode cX12_lineRead 87 = .ok (.ireturn, 1) := by decide +kernel
theorem dX12_lineRead_88 : decode cX12_lineRead 88 = .ok (.aload_n 0, 1) := by decide +kernel
theorem dX12_lineRead_89 : decode cX12_lineRead 89 = .ok (.invokevirtual 228, 3) := by decide +kernel
theorem dX12_lineRead_92 : decode cX12_lineRead 92 = .ok (.aload_n 0, 1) := by decide +kernel
theorem dX12_lineRead_93 : decode cX12_lineRead 93 = .ok (.invokevirtual 324, 3) := by decide +kernel
theorem dX12_lineRead_96 : decode cX12_lineRead 96 = .ok (.ifCond .ne 5, 3) := by decide +kernel
theorem dX12_lineRead_99 : decode cX12_lineRead 99 = .ok (.iconst 0, 1) := by decide +kernel
theorem dX12_lineRead_100 : decode cX12_lineRead 100 = .ok (.ireturn, 1) := by decide +kernel
theorem dX12_lineRead_101 : decode cX12_lineRead 101 = .ok (.aload_n 0, 1) := by decide +kernel
theorem dX12_lineRead_102 : decode cX12_lineRead 102 = .ok (.bipush 59, 2) := by decide +kernel
theorem dX12_lineRead_104 : decode cX12_lineRead 104 = .ok (.invokevirtual 231, 3) := by decide +kernel
theorem dX12_lineRead_107 : decode cX12_lineRead 107 = .ok (.ifCond .ne 9, 3) := by decide +kernel
theorem dX12_lineRead_110 : decode cX12_lineRead 110 = .ok (.aload_n 0, 1) := by decide +kernel
theorem dX12_lineRead_111 : decode cX12_lineRead 111 = .ok (.iconst 1, 1) := by decide +kernel
theorem dX12_lineRead_112 : decode cX12_lineRead 112 = .ok (.invokevirtual 222, 3) := by decide +kernel
theorem dX12_lineRead_115 : decode cX12_lineRead 115 = .ok (.ireturn, 1) := by decide +kernel
theorem dX12_lineRead_116 : decode cX12_lineRead 116 = .ok (.aload_n 0, 1) := by decide +kernel
theorem dX12_lineRead_117 : decode cX12_lineRead 117 = .ok (.invokevirtual 228, 3) := by decide +kernel
theorem dX12_lineRead_120 : decode cX12_lineRead 120 = .ok (.aload_n 0, 1) := by decide +kernel
theorem dX12_lineRead_121 : decode cX12_lineRead 121 = .ok (.getfield 90, 3) := by decide +kernel
theorem dX12_lineRead_124 : decode cX12_lineRead 124 = .ok (.iload_n 2, 1) := by decide +kernel
theorem dX12_lineRead_125 : decode cX12_lineRead 125 = .ok (.aload_n 0, 1) := by decide +kernel
theorem dX12_lineRead_126 : decode cX12_lineRead 126 = .ok (.getfield 260, 3) := by decide +kernel
theorem dX12_lineRead_129 : decode cX12_lineRead 129 = .ok (.aload_n 0, 1) := by decide +kernel
theorem dX12_lineRead_130 : decode cX12_lineRead 130 = .ok (.getfield 87, 3) := by decide +kernel
theorem dX12_lineRead_133 : decode cX12_lineRead 133 = .ok (.iload_n 2, 1) := by decide +kernel
theorem dX12_lineRead_134 : decode cX12_lineRead 134 = .ok (.iaload, 1) := by decide +kernel
theorem dX12_lineRead_135 : decode cX12_lineRead 135 = .ok (.isub, 1) := by decide +kernel
theorem dX12_lineRead_136 : decode cX12_lineRead 136 = .ok (.iastore, 1) := by decide +kernel
theorem dX12_lineRead_137 : decode cX12_lineRead 137 = .ok (.aload_n 0, 1) := by decide +kernel
theorem dX12_lineRead_138 : decode cX12_lineRead 138 = .ok (.dup, 1) := by decide +kernel
theorem dX12_lineRead_139 : decode cX12_lineRead 139 = .ok (.getfield 318, 3) := by decide +kernel
theorem dX12_lineRead_142 : decode cX12_lineRead 142 = .ok (.iconst 1, 1) := by decide +kernel
theorem dX12_lineRead_143 : decode cX12_lineRead 143 = .ok (.iadd, 1) := by decide +kernel
theorem dX12_lineRead_144 : decode cX12_lineRead 144 = .ok (.putfield 318, 3) := by decide +kernel
theorem dX12_lineRead_147 : decode cX12_lineRead 147 = .ok (.iconst 1, 1) := by decide +kernel
theorem dX12_lineRead_148 : decode cX12_lineRead 148 = .ok (.ireturn, 1) := by decide +kernel
theorem dX12_key_0 : decode cX12_key 0 = .ok (.aload_n 0, 1) := by decide +kernel
theorem dX12_key_1 : decode cX12_key 1 = .ok (.iconst 0, 1) := by decide +kernel
theorem dX12_key_2 : decode cX12_key 2 = .ok (.putfield 171, 3) := by decide +kernel
theorem dX12_key_5 : decode cX12_key 5 = .ok (.iload_n 1, 1) := by decide +kernel
theorem dX12_key_6 : decode cX12_key 6 = .ok (.ifCond .lt 11, 3) := by decide +kernel
theorem dX12_key_9 : decode cX12_key 9 = .ok (.iload_n 1, 1) := by decide +kernel
theorem dX12_key_10 : decode cX12_key 10 = .ok (.aload_n 0, 1) := by decide +kernel
theorem dX12_key_11 : decode cX12_key 11 = .ok (.getfield 177, 3) := by decide +kernel
theorem dX12_key_14 : decode cX12_key 14 = .ok (.if_icmp .le 6, 3) := by decide +kernel
theorem dX12_key_17 : decode cX12_key 17 = .ok (.bipush (-2), 2) := by decide +kernel
theorem dX12_key_19 : decode cX12_key 19 = .ok (.ireturn, 1) := by decide +kernel
theorem dX12_key_20 : decode cX12_key 20 = .ok (.aload_n 0, 1) := by decide +kernel
theorem dX12_key_21 : decode cX12_key 21 = .ok (.iload_n 1, 1) := by decide +kernel
theorem dX12_key_22 : decode cX12_key 22 = .ok (.invokevirtual 243, 3) := by decide +kernel
theorem dX12_key_25 : decode cX12_key 25 = .ok (.aload_n 0, 1) := by decide +kernel
theorem dX12_key_26 : decode cX12_key 26 = .ok (.iconst 0, 1) := by decide +kernel
theorem dX12_key_27 : decode cX12_key 27 = .ok (.putfield 315, 3) := by decide +kernel
theorem dX12_key_30 : decode cX12_key 30 = .ok (.aload_n 0, 1) := by decide +kernel
theorem dX12_key_31 : decode cX12_key 31 = .ok (.iconst 0, 1) := by decide +kernel
theorem dX12_key_32 : decode cX12_key 32 = .ok (.putfield 318, 3) := by decide +kernel
theorem dX12_key_35 : decode cX12_key 35 = .ok (.aload_n 0, 1) := by decide +kernel
theorem dX12_key_36 : decode cX12_key 36 = .ok (.iconst 0, 1) := by decide +kernel
theorem dX12_key_37 : decode cX12_key 37 = .ok (.putfield 254, 3) := by decide +kernel
theorem dX12_key_40 : decode cX12_key 40 = .ok (.aload_n 0, 1) := by decide +kernel
theorem dX12_key_41 : decode cX12_key 41 = .ok (.iconst 0, 1) := by decide +kernel
theorem dX12_key_42 : decode cX12_key 42 = .ok (.putfield 260, 3) := by decide +kernel
theorem dX12_key_45 : decode cX12_key 45 = .ok (.aload_n 0, 1) := by decide +kernel
theorem dX12_key_46 : decode cX12_key 46 = .ok (.getfield 199, 3) := by decide +kernel
theorem dX12_key_49 : decode cX12_key 49 = .ok (.ifCond .eq 12, 3) := by decide +kernel
theorem dX12_key_52 : decode cX12_key 52 = .ok (.aload_n 0, 1) := by decide +kernel
theorem dX12_key_53 : decode cX12_key 53 = .ok (.invokevirtual 327, 3) := by decide +kernel
theorem dX12_key_56 : decode cX12_key 56 = .ok (.ifCond .ne (-11), 3) := by decide +kernel
theorem dX12_key_59 : decode cX12_key 59 = .ok (.iconst (-1), 1) := by decide +kernel
theorem dX12_key_60 : decode cX12_key 60 = .ok (.ireturn, 1) := by decide +kernel
theorem dX12_key_61 : decode cX12_key 61 = .ok (.aload_n 0, 1) := by decide +kernel
theorem dX12_key_62 : decode cX12_key 62 = .ok (.aload_n 0, 1) := by decide +kernel
theorem dX12_key_63 : decode cX12_key 63 = .ok (.getfield 315, 3) := by decide +kernel
theorem dX12_key_66 : decode cX12_key 66 = .ok (.putfield 330, 3) := by decide +kernel
theorem dX12_key_69 : decode cX12_key 69 = .ok (.aload_n 0, 1) := by decide +kernel
theorem dX12_key_70 : decode cX12_key 70 = .ok (.aload_n 0, 1) := by decide +kernel
theorem dX12_key_71 : decode cX12_key 71 = .ok (.getfield 318, 3) := by decide +kernel
theorem dX12_key_74 : decode cX12_key 74 = .ok (.putfield 333, 3) := by decide +kernel
theorem dX12_key_77 : decode cX12_key 77 = .ok (.aload_n 0, 1) := by decide +kernel
theorem dX12_key_78 : decode cX12_key 78 = .ok (.aload_n 0, 1) := by decide +kernel
theorem dX12_key_79 : decode cX12_key 79 = .ok (.getfield 254, 3) := by decide +kernel
theorem dX12_key_82 : decode cX12_key 82 = .ok (.putfield 336, 3) := by decide +kernel
theorem dX12_key_85 : decode cX12_key 85 = .ok (.iconst 0, 1) := by decide +kernel
theorem dX12_key_86 : decode cX12_key 86 = .ok (.istore_n 2, 1) := by decide +kernel
theorem dX12_key_87 : decode cX12_key 87 = .ok (.iload_n 2, 1) := by decide +kernel
theorem dX12_key_88 : decode cX12_key 88 = .ok (.aload_n 0, 1) := by decide +kernel
theorem dX12_key_89 : decode cX12_key 89 = .ok (.getfield 336, 3) := by decide +kernel
theorem dX12_key_92 : decode cX12_key 92 = .ok (.if_icmp .ge 108, 3) := by decide +kernel
theorem dX12_key_95 : decode cX12_key 95 = .ok (.aload_n 0, 1) := by decide +kernel
theorem dX12_key_96 : decode cX12_key 96 = .ok (.getfield 93, 3) := by decide +kernel
theorem dX12_key_99 : decode cX12_key 99 = .ok (.iload_n 2, 1) := by decide +kernel
theorem dX12_key_100 : decode cX12_key 100 = .ok (.aload_n 0, 1) := by decide +kernel
theorem dX12_key_101 : decode cX12_key 101 = .ok (.getfield 93, 3) := by decide +kernel
theorem dX12_key_104 : decode cX12_key 104 = .ok (.bipush 96, 2) := by decide +kernel
theorem dX12_key_106 : decode cX12_key 106 = .ok (.iload_n 2, 1) := by decide +kernel
theorem dX12_key_107 : decode cX12_key 107 = .ok (.iadd, 1) := by decide +kernel
theorem dX12_key_108 : decode cX12_key 108 = .ok (.iaload, 1) := by decide +kernel
theorem dX12_key_109 : decode cX12_key 109 = .ok (.iastore, 1) := by decide +kernel
theorem dX12_key_110 : decode cX12_key 110 = .ok (.aload_n 0, 1) := by decide +kernel
theorem dX12_key_111 : decode cX12_key 111 = .ok (.getfield 96, 3) := by decide +kernel
theorem dX12_key_114 : decode cX12_key 114 = .ok (.iload_n 2, 1) := by decide +kernel
theorem dX12_key_115 : decode cX12_key 115 = .ok (.aload_n 0, 1) := by decide +kernel
theorem dX12_key_116 : decode cX12_key 116 = .ok (.getfield 96, 3) := by decide +kernel
theorem dX12_key_119 : decode cX12_key 119 = .ok (.bipush 96, 2) := by decide +kernel
theorem dX12_key_121 : decode cX12_key 121 = .ok (.iload_n 2, 1) := by decide +kernel
theorem dX12_key_122 : decode cX12_key 122 = .ok (.iadd, 1) := by decide +kernel
theorem dX12_key_123 : decode cX12_key 123 = .ok (.iaload, 1) := by decide +kernel
theorem dX12_key_124 : decode cX12_key 124 = .ok (.iastore, 1) := by decide +kernel
theorem dX12_key_125 : decode cX12_key 125 = .ok (.aload_n 0, 1) := by decide +kernel
theorem dX12_key_126 : decode cX12_key 126 = .ok (.getfield 99, 3) := by decide +kernel
theorem dX12_key_129 : decode cX12_key 129 = .ok (.iload_n 2, 1) := by decide +kernel
theorem dX12_key_130 : decode cX12_key 130 = .ok (.aload_n 0, 1) := by decide +kernel
theorem dX12_key_131 : decode cX12_key 131 = .ok (.getfield 99, 3) := by decide +kernel
theorem dX12_key_134 : decode cX12_key 134 = .ok (.bipush 96, 2) := by decide +kernel
theorem dX12_key_136 : decode cX12_key 136 = .ok (.iload_n 2, 1) := by decide +kernel
theorem dX12_key_137 : decode cX12_key 137 = .ok (.iadd, 1) := by decide +kernel
theorem dX12_key_138 : decode cX12_key 138 = .ok (.iaload, 1) := by decide +kernel
theorem dX12_key_139 : decode cX12_key 139 = .ok (.iastore, 1) := by decide +kernel
theorem dX12_key_140 : decode cX12_key 140 = .ok (.aload_n 0, 1) := by decide +kernel
theorem dX12_key_141 : decode cX12_key 141 = .ok (.getfield 102, 3) := by decide +kernel
theorem dX12_key_144 : decode cX12_key 144 = .ok (.iload_n 2, 1) := by decide +kernel
theorem dX12_key_145 : decode cX12_key 145 = .ok (.aload_n 0, 1) := by decide +kernel
theorem dX12_key_146 : decode cX12_key 146 = .ok (.getfield 102, 3) := by decide +kernel
theorem dX12_key_149 : decode cX12_key 149 = .ok (.bipush 96, 2) := by decide +kernel
theorem dX12_key_151 : decode cX12_key 151 = .ok (.iload_n 2, 1) := by decide +kernel
theorem dX12_key_152 : decode cX12_key 152 = .ok (.iadd, 1) := by decide +kernel
theorem dX12_key_153 : decode cX12_key 153 = .ok (.iaload, 1) := by decide +kernel
theorem dX12_key_154 : decode cX12_key 154 = .ok (.bipush 96, 2) := by decide +kernel
theorem dX12_key_156 : decode cX12_key 156 = .ok (.isub, 1) := by decide +kernel
theorem dX12_key_157 : decode cX12_key 157 = .ok (.iastore, 1) := by decide +kernel
theorem dX12_key_158 : decode cX12_key 158 = .ok (.aload_n 0, 1) := by decide +kernel
theorem dX12_key_159 : decode cX12_key 159 = .ok (.getfield 105, 3) := by decide +kernel
theorem dX12_key_162 : decode cX12_key 162 = .ok (.iload_n 2, 1) := by decide +kernel
theorem dX12_key_163 : decode cX12_key 163 = .ok (.aload_n 0, 1) := by decide +kernel
theorem dX12_key_164 : decode cX12_key 164 = .ok (.getfield 105, 3) := by decide +kernel
theorem dX12_key_167 : decode cX12_key 167 = .ok (.bipush 96, 2) := by decide +kernel
theorem dX12_key_169 : decode cX12_key 169 = .ok (.iload_n 2, 1) := by decide +kernel
theorem dX12_key_170 : decode cX12_key 170 = .ok (.iadd, 1) := by decide +kernel
theorem dX12_key_171 : decode cX12_key 171 = .ok (.iaload, 1) := by decide +kernel
theorem dX12_key_172 : decode cX12_key 172 = .ok (.bipush 96, 2) := by decide +kernel
theorem dX12_key_174 : decode cX12_key 174 = .ok (.isub, 1) := by decide +kernel
theorem dX12_key_175 : decode cX12_key 175 = .ok (.iastore, 1) := by decide +kernel
theorem dX12_key_176 : decode cX12_key 176 = .ok (.aload_n 0, 1) := by decide +kernel
theorem dX12_key_177 : decode cX12_key 177 = .ok (.getfield 108, 3) := by decide +kernel
theorem dX12_key_180 : decode cX12_key 180 = .ok (.iload_n 2, 1) := by decide +kernel
theorem dX12_key_181 : decode cX12_key 181 = .ok (.aload_n 0, 1) := by decide +kernel
theorem dX12_key_182 : decode cX12_key 182 = .ok (.getfield 108, 3) := by decide +kernel
theorem dX12_key_185 : decode cX12_key 185 = .ok (.bipush 96, 2) := by decide +kernel
theorem dX12_key_187 : decode cX12_key 187 = .ok (.iload_n 2, 1) := by decide +kernel
theorem dX12_key_188 : decode cX12_key 188 = .ok (.iadd, 1) := by decide +kernel
theorem dX12_key_189 : decode cX12_key 189 = .ok (.iaload, 1) := by decide +kernel
theorem dX12_key_190 : decode cX12_key 190 = .ok (.bipush 96, 2) := by decide +kernel
theorem dX12_key_192 : decode cX12_key 192 = .ok (.isub, 1) := by decide +kernel
theorem dX12_key_193 : decode cX12_key 193 = .ok (.iastore, 1) := by decide +kernel
theorem dX12_key_194 : decode cX12_key 194 = .ok (.iinc 2 1, 3) := by decide +kernel
theorem dX12_key_197 : decode cX12_key 197 = .ok (.goto (-110), 3) := by decide +kernel
theorem dX12_key_200 : decode cX12_key 200 = .ok (.iconst 0, 1) := by decide +kernel
theorem dX12_key_201 : decode cX12_key 201 = .ok (.istore_n 2, 1) := by decide +kernel
theorem dX12_key_202 : decode cX12_key 202 = .ok (.iload_n 2, 1) := by decide +kernel
theorem dX12_key_203 : decode cX12_key 203 = .ok (.aload_n 0, 1) := by decide +kernel
theorem dX12_key_204 : decode cX12_key 204 = .ok (.getfield 333, 3) := by decide +kernel
theorem dX12_key_207 : decode cX12_key 207 = .ok (.if_icmp .ge 54, 3) := by decide +kernel
theorem dX12_key_210 : decode cX12_key 210 = .ok (.aload_n 0, 1) := by decide +kernel
theorem dX12_key_211 : decode cX12_key 211 = .ok (.getfield 84, 3) := by decide +kernel
theorem dX12_key_214 : decode cX12_key 214 = .ok (.iload_n 2, 1) := by decide +kernel
theorem dX12_key_215 : decode cX12_key 215 = .ok (.aload_n 0, 1) := by decide +kernel
theorem dX12_key_216 : decode cX12_key 216 = .ok (.getfield 84, 3) := by decide +kernel
theorem dX12_key_219 : decode cX12_key 219 = .ok (.bipush 16, 2) := by decide +kernel
theorem dX12_key_221 : decode cX12_key 221 = .ok (.iload_n 2, 1) := by decide +kernel
theorem dX12_key_222 : decode cX12_key 222 = .ok (.iadd, 1) := by decide +kernel
theorem dX12_key_223 : decode cX12_key 223 = .ok (.iaload, 1) := by decide +kernel
theorem dX12_key_224 : decode cX12_key 224 = .ok (.iastore, 1) := by decide +kernel
theorem dX12_key_225 : decode cX12_key 225 = .ok (.aload_n 0, 1) := by decide +kernel
theorem dX12_key_226 : decode cX12_key 226 = .ok (.getfield 87, 3) := by decide +kernel
theorem dX12_key_229 : decode cX12_key 229 = .ok (.iload_n 2, 1) := by decide +kernel
theorem dX12_key_230 : decode cX12_key 230 = .ok (.aload_n 0, 1) := by decide +kernel
theorem dX12_key_231 : decode cX12_key 231 = .ok (.getfield 87, 3) := by decide +kernel
theorem dX12_key_234 : decode cX12_key 234 = .ok (.bipush 16, 2) := by decide +kernel
theorem dX12_key_236 : decode cX12_key 236 = .ok (.iload_n 2, 1) := by decide +kernel
theorem dX12_key_237 : decode cX12_key 237 = .ok (.iadd, 1) := by decide +kernel
theorem dX12_key_238 : decode cX12_key 238 = .ok (.iaload, 1) := by decide +kernel
theorem dX12_key_239 : decode cX12_key 239 = .ok (.iastore, 1) := by decide +kernel
theorem dX12_key_240 : decode cX12_key 240 = .ok (.aload_n 0, 1) := by decide +kernel
theorem dX12_key_241 : decode cX12_key 241 = .ok (.getfield 90, 3) := by decide +kernel
theorem dX12_key_244 : decode cX12_key 244 = .ok (.iload_n 2, 1) := by decide +kernel
theorem dX12_key_245 : decode cX12_key 245 = .ok (.aload_n 0, 1) := by decide +kernel
theorem dX12_key_246 : decode cX12_key 246 = .ok (.getfield 90, 3) := by decide +kernel
theorem dX12_key_249 : decode cX12_key 249 = .ok (.bipush 16, 2) := by decide +kernel
theorem dX12_key_251 : decode cX12_key 251 = .ok (.iload_n 2, 1) := by decide +kernel
theorem dX12_key_252 : decode cX12_key 252 = .ok (.iadd, 1) := by decide +kernel
theorem dX12_key_253 : decode cX12_key 253 = .ok (.iaload, 1) := by decide +kernel
theorem dX12_key_254 : decode cX12_key 254 = .ok (.iastore, 1) := by decide +kernel
theorem dX12_key_255 : decode cX12_key 255 = .ok (.iinc 2 1, 3) := by decide +kernel
theorem dX12_key_258 : decode cX12_key 258 = .ok (.goto (-56), 3) := by decide +kernel
theorem dX12_key_261 : decode cX12_key 261 = .ok (.iconst 0, 1) := by decide +kernel
theorem dX12_key_262 : decode cX12_key 262 = .ok (.istore_n 2, 1) := by decide +kernel
theorem dX12_key_263 : decode cX12_key 263 = .ok (.iload_n 2, 1) := by decide +kernel
theorem dX12_key_264 : decode cX12_key 264 = .ok (.iconst 3, 1) := by decide +kernel
theorem dX12_key_265 : decode cX12_key 265 = .ok (.if_icmp .ge 68, 3) := by decide +kernel
theorem dX12_key_268 : decode cX12_key 268 = .ok (.iconst 0, 1) := by decide +kernel
theorem dX12_key_269 : decode cX12_key 269 = .ok (.istore_n 3, 1) := by decide +kernel
theorem dX12_key_270 : decode cX12_key 270 = .ok (.iload_n 3, 1) := by decide +kernel
theorem dX12_key_271 : decode cX12_key 271 = .ok (.bipush 8, 2) := by decide +kernel
theorem dX12_key_273 : decode cX12_key 273 = .ok (.if_icmp .ge 54, 3) := by decide +kernel
theorem dX12_key_276 : decode cX12_key 276 = .ok (.iconst 0, 1) := by decide +kernel
theorem dX12_key_277 : decode cX12_key 277 = .ok (.istore 4, 2) := by decide +kernel
theorem dX12_key_279 : decode cX12_key 279 = .ok (.iload 4, 2) := by decide +kernel
theorem dX12_key_281 : decode cX12_key 281 = .ok (.bipush 8, 2) := by decide +kernel
theorem dX12_key_283 : decode cX12_key 283 = .ok (.if_icmp .ge 38, 3) := by decide +kernel
theorem dX12_key_286 : decode cX12_key 286 = .ok (.aload_n 0, 1) := by decide +kernel
theorem dX12_key_287 : decode cX12_key 287 = .ok (.getfield 126, 3) := by decide +kernel
theorem dX12_key_290 : decode cX12_key 290 = .ok (.bipush 64, 2) := by decide +kernel
theorem dX12_key_292 : decode cX12_key 292 = .ok (.iload_n 2, 1) := by decide +kernel
theorem dX12_key_293 : decode cX12_key 293 = .ok (.imul, 1) := by decide +kernel
theorem dX12_key_294 : decode cX12_key 294 = .ok (.bipush 8, 2) := by decide +kernel
theorem dX12_key_296 : decode cX12_key 296 = .ok (.iload_n 3, 1) := by decide +kernel
theorem dX12_key_297 : decode cX12_key 297 = .ok (.imul, 1) := by decide +kernel
theorem dX12_key_298 : decode cX12_key 298 = .ok (.iadd, 1) := by decide +kernel
theorem dX12_key_299 : decode cX12_key 299 = .ok (.iload 4, 2) := by decide +kernel
theorem dX12_key_301 : decode cX12_key 301 = .ok (.iadd, 1) := by decide +kernel
theorem dX12_key_302 : decode cX12_key 302 = .ok (.iload_n 3, 1) := by decide +kernel
theorem dX12_key_303 : decode cX12_key 303 = .ok (.iload 4, 2) := by decide +kernel
theorem dX12_key_305 : decode cX12_key 305 = .ok (.if_icmp .ne 8, 3) := by decide +kernel
theorem dX12_key_308 : decode cX12_key 308 = .ok (.bipush 16, 2) := by decide +kernel
theorem dX12_key_310 : decode cX12_key 310 = .ok (.goto 4, 3) := by decide +kernel
theorem dX12_key_313 : decode cX12_key 313 = .ok (.iconst 0, 1) := by decide +kernel
theorem dX12_key_314 : decode cX12_key 314 = .ok (.iastore, 1) := by decide +kernel
theorem dX12_key_315 : decode cX12_key 315 = .ok (.iinc 4 1, 3) := by decide +kernel
theorem dX12_key_318 : decode cX12_key 318 = .ok (.goto (-39), 3) := by decide +kernel
theorem dX12_key_321 : decode cX12_key 321 = .ok (.iinc 3 1, 3) := by decide +kernel
theorem dX12_key_324 : decode cX12_key 324 = .ok (.goto (-54), 3) := by decide +kernel
theorem dX12_key_327 : decode cX12_key 327 = .ok (.iinc 2 1, 3) := by decide +kernel
theorem dX12_key_330 : decode cX12_key 330 = .ok (.goto (-67), 3) := by decide +kernel
theorem dX12_key_333 : decode cX12_key 333 = .ok (.iconst 0, 1) := by decide +kernel
theorem dX12_key_334 : decode cX12_key 334 = .ok (.istore_n 2, 1) := by decide +kernel
theorem dX12_key_335 : decode cX12_key 335 = .ok (.iload_n 2, 1) := by decide +kernel
theorem dX12_key_336 : decode cX12_key 336 = .ok (.bipush 8, 2) := by decide +kernel
theorem dX12_key_338 : decode cX12_key 338 = .ok (.if_icmp .ge 16, 3) := by decide +kernel
theorem dX12_key_341 : decode cX12_key 341 = .ok (.aload_n 0, 1) := by decide +kernel
theorem dX12_key_342 : decode cX12_key 342 = .ok (.getfield 129, 3) := by decide +kernel
theorem dX12_key_345 : decode cX12_key 345 = .ok (.iload_n 2, 1) := by decide +kernel
theorem dX12_key_346 : decode cX12_key 346 = .ok (.iconst 0, 1) := by decide +kernel
theorem dX12_key_347 : decode cX12_key 347 = .ok (.iastore, 1) := by decide +kernel
theorem dX12_key_348 : decode cX12_key 348 = .ok (.iinc 2 1, 3) := by decide +kernel
theorem dX12_key_351 : decode cX12_key 351 = .ok (.goto (-16), 3) := by decide +kernel
theorem dX12_key_354 : decode cX12_key 354 = .ok (.aload_n 0, 1) := by decide +kernel
theorem dX12_key_355 : decode cX12_key 355 = .ok (.getfield 333, 3) := by decide +kernel
theorem dX12_key_358 : decode cX12_key 358 = .ok (.ireturn, 1) := by decide +kernel
theorem dX12_holds_0 : decode cX12_holds 0 = .ok (.iload_n 1, 1) := by decide +kernel
theorem dX12_holds_1 : decode cX12_holds 1 = .ok (.iconst 1, 1) := by decide +kernel
theorem dX12_holds_2 : decode cX12_holds 2 = .ok (.if_icmp .ne 16, 3) := by decide +kernel
theorem dX12_holds_5 : decode cX12_holds 5 = .ok (.iload_n 0, 1) := by decide +kernel
theorem dX12_holds_6 : decode cX12_holds 6 = .ok (.iload_n 2, 1) := by decide +kernel
theorem dX12_holds_7 : decode cX12_holds 7 = .ok (.if_icmp .ge 7, 3) := by decide +kernel
theorem dX12_holds_10 : decode cX12_holds 10 = .ok (.iconst 1, 1) := by decide +kernel
theorem dX12_holds_11 : decode cX12_holds 11 = .ok (.goto 71, 3) := by decide +kernel
theorem dX12_holds_14 : decode cX12_holds 14 = .ok (.iconst 0, 1) := by decide +kernel
theorem dX12_holds_15 : decode cX12_holds 15 = .ok (.goto 67, 3) := by decide +kernel
theorem dX12_holds_18 : decode cX12_holds 18 = .ok (.iload_n 1, 1) := by decide +kernel
theorem dX12_holds_19 : decode cX12_holds 19 = .ok (.iconst 2, 1) := by decide +kernel
theorem dX12_holds_20 : decode cX12_holds 20 = .ok (.if_icmp .ne 16, 3) := by decide +kernel
theorem dX12_holds_23 : decode cX12_holds 23 = .ok (.iload_n 0, 1) := by decide +kernel
theorem dX12_holds_24 : decode cX12_holds 24 = .ok (.iload_n 2, 1) := by decide +kernel
theorem dX12_holds_25 : decode cX12_holds 25 = .ok (.if_icmp .gt 7, 3) := by decide +kernel
theorem dX12_holds_28 : decode cX12_holds 28 = .ok (.iconst 1, 1) := by decide +kernel
theorem dX12_holds_29 : decode cX12_holds 29 = .ok (.goto 53, 3) := by decide +kernel
theorem dX12_holds_32 : decode cX12_holds 32 = .ok (.iconst 0, 1) := by decide +kernel
theorem dX12_holds_33 : decode cX12_holds 33 = .ok (.goto 49, 3) := by decide +kernel
theorem dX12_holds_36 : decode cX12_holds 36 = .ok (.iload_n 1, 1) := by decide +kernel
theorem dX12_holds_37 : decode cX12_holds 37 = .ok (.iconst 3, 1) := by decide +kernel
theorem dX12_holds_38 : decode cX12_holds 38 = .ok (.if_icmp .ne 16, 3) := by decide +kernel
theorem dX12_holds_41 : decode cX12_holds 41 = .ok (.iload_n 0, 1) := by decide +kernel
theorem dX12_holds_42 : decode cX12_holds 42 = .ok (.iload_n 2, 1) := by decide +kernel
theorem dX12_holds_43 : decode cX12_holds 43 = .ok (.if_icmp .ne 7, 3) := by decide +kernel
theorem dX12_holds_46 : decode cX12_holds 46 = .ok (.iconst 1, 1) := by decide +kernel
theorem dX12_holds_47 : decode cX12_holds 47 = .ok (.goto 35, 3) := by decide +kernel
theorem dX12_holds_50 : decode cX12_holds 50 = .ok (.iconst 0, 1) := by decide +kernel
theorem dX12_holds_51 : decode cX12_holds 51 = .ok (.goto 31, 3) := by decide +kernel
theorem dX12_holds_54 : decode cX12_holds 54 = .ok (.iload_n 1, 1) := by decide +kernel
theorem dX12_holds_55 : decode cX12_holds 55 = .ok (.iconst 4, 1) := by decide +kernel
theorem dX12_holds_56 : decode cX12_holds 56 = .ok (.if_icmp .ne 16, 3) := by decide +kernel
theorem dX12_holds_59 : decode cX12_holds 59 = .ok (.iload_n 0, 1) := by decide +kernel
theorem dX12_holds_60 : decode cX12_holds 60 = .ok (.iload_n 2, 1) := by decide +kernel
theorem dX12_holds_61 : decode cX12_holds 61 = .ok (.if_icmp .lt 7, 3) := by decide +kernel
theorem dX12_holds_64 : decode cX12_holds 64 = .ok (.iconst 1, 1) := by decide +kernel
theorem dX12_holds_65 : decode cX12_holds 65 = .ok (.goto 17, 3) := by decide +kernel
theorem dX12_holds_68 : decode cX12_holds 68 = .ok (.iconst 0, 1) := by decide +kernel
theorem dX12_holds_69 : decode cX12_holds 69 = .ok (.goto 13, 3) := by decide +kernel
theorem dX12_holds_72 : decode cX12_holds 72 = .ok (.iload_n 0, 1) := by decide +kernel
theorem dX12_holds_73 : decode cX12_holds 73 = .ok (.iload_n 2, 1) := by decide +kernel
theorem dX12_holds_74 : decode cX12_holds 74 = .ok (.if_icmp .le 7, 3) := by decide +kernel
theorem dX12_holds_77 : decode cX12_holds 77 = .ok (.iconst 1, 1) := by decide +kernel
theorem dX12_holds_78 : decode cX12_holds 78 = .ok (.goto 4, 3) := by decide +kernel
theorem dX12_holds_81 : decode cX12_holds 81 = .ok (.iconst 0, 1) := by decide +kernel
theorem dX12_holds_82 : decode cX12_holds 82 = .ok (.ireturn, 1) := by decide +kernel
theorem dX12_layerOf_0 : decode cX12_layerOf 0 = .ok (.aload_n 0, 1) := by decide +kernel
theorem dX12_layerOf_1 : decode cX12_layerOf 1 = .ok (.getfield 71, 3) := by decide +kernel
theorem dX12_layerOf_4 : decode cX12_layerOf 4 = .ok (.bipush 48, 2) := by decide +kernel
theorem dX12_layerOf_6 : decode cX12_layerOf 6 = .ok (.iload_n 1, 1) := by decide +kernel
theorem dX12_layerOf_7 : decode cX12_layerOf 7 = .ok (.imul, 1) := by decide +kernel
theorem dX12_layerOf_8 : decode cX12_layerOf 8 = .ok (.bipush 6, 2) := by decide +kernel
theorem dX12_layerOf_10 : decode cX12_layerOf 10 = .ok (.iload_n 2, 1) := by decide +kernel
theorem dX12_layerOf_11 : decode cX12_layerOf 11 = .ok (.imul, 1) := by decide +kernel
theorem dX12_layerOf_12 : decode cX12_layerOf 12 = .ok (.iadd, 1) := by decide +kernel
theorem dX12_layerOf_13 : decode cX12_layerOf 13 = .ok (.iload_n 3, 1) := by decide +kernel
theorem dX12_layerOf_14 : decode cX12_layerOf 14 = .ok (.iadd, 1) := by decide +kernel
theorem dX12_layerOf_15 : decode cX12_layerOf 15 = .ok (.iaload, 1) := by decide +kernel
theorem dX12_layerOf_16 : decode cX12_layerOf 16 = .ok (.ireturn, 1) := by decide +kernel
theorem dX12_layersSo_0 : decode cX12_layersSo 0 = .ok (.aload_n 0, 1) := by decide +kernel
theorem dX12_layersSo_1 : decode cX12_layersSo 1 = .ok (.getfield 93, 3) := by decide +kernel
theorem dX12_layersSo_4 : decode cX12_layersSo 4 = .ok (.iload_n 2, 1) := by decide +kernel
theorem dX12_layersSo_5 : decode cX12_layersSo 5 = .ok (.iaload, 1) := by decide +kernel
theorem dX12_layersSo_6 : decode cX12_layersSo 6 = .ok (.istore_n 3, 1) := by decide +kernel
theorem dX12_layersSo_7 : decode cX12_layersSo 7 = .ok (.iconst 0, 1) := by decide +kernel
theorem dX12_layersSo_8 : decode cX12_layersSo 8 = .ok (.istore 4, 2) := by decide +kernel
theorem dX12_layersSo_10 : decode cX12_layersSo 10 = .ok (.iconst 0, 1) := by decide +kernel
theorem dX12_layersSo_11 : decode cX12_layersSo 11 = .ok (.istore 5, 2) := by decide +kernel
theorem dX12_layersSo_13 : decode cX12_layersSo 13 = .ok (.iload 5, 2) := by decide +kernel
theorem dX12_layersSo_15 : decode cX12_layersSo 15 = .ok (.aload_n 0, 1) := by decide +kernel
theorem dX12_layersSo_16 : decode cX12_layersSo 16 = .ok (.getfield 68, 3) := by decide +kernel
theorem dX12_layersSo_19 : decode cX12_layersSo 19 = .ok (.iload_n 1, 1) := by decide +kernel
theorem dX12_layersSo_20 : decode cX12_layersSo 20 = .ok (.iaload, 1) := by decide +kernel
theorem dX12_layersSo_21 : decode cX12_layersSo 21 = .ok (.if_icmp .ge 162, 3) := by decide +kernel
theorem dX12_layersSo_24 : decode cX12_layersSo 24 = .ok (.aload_n 0, 1) := by decide +kernel
theorem dX12_layersSo_25 : decode cX12_layersSo 25 = .ok (.iload_n 1, 1) := by decide +kernel
theorem dX12_layersSo_26 : decode cX12_layersSo 26 = .ok (.iload 5, 2) := by decide +kernel
theorem dX12_layersSo_28 : decode cX12_layersSo 28 = .ok (.iconst 1, 1) := by decide +kernel
theorem dX12_layersSo_29 : decode cX12_layersSo 29 = .ok (.invokevirtual 339, 3) := by decide +kernel
theorem dX12_layersSo_32 : decode cX12_layersSo 32 = .ok (.aload_n 0, 1) := by decide +kernel
theorem dX12_layersSo_33 : decode cX12_layersSo 33 = .ok (.iload_n 1, 1) := by decide +kernel
theorem dX12_layersSo_34 : decode cX12_layersSo 34 = .ok (.iload 5, 2) := by decide +kernel
theorem dX12_layersSo_36 : decode cX12_layersSo 36 = .ok (.iconst 0, 1) := by decide +kernel
theorem dX12_layersSo_37 : decode cX12_layersSo 37 = .ok (.invokevirtual 339, 3) := by decide +kernel
theorem dX12_layersSo_40 : decode cX12_layersSo 40 = .ok (.isub, 1) := by decide +kernel
theorem dX12_layersSo_41 : decode cX12_layersSo 41 = .ok (.istore 6, 2) := by decide +kernel
theorem dX12_layersSo_43 : decode cX12_layersSo 43 = .ok (.iload_n 3, 1) := by decide +kernel
theorem dX12_layersSo_44 : decode cX12_layersSo 44 = .ok (.iconst 5, 1) := by decide +kernel
theorem dX12_layersSo_45 : decode cX12_layersSo 45 = .ok (.if_icmp .gt 23, 3) := by decide +kernel
theorem dX12_layersSo_48 : decode cX12_layersSo 48 = .ok (.aload_n 0, 1) := by decide +kernel
theorem dX12_layersSo_49 : decode cX12_layersSo 49 = .ok (.iload_n 1, 1) := by decide +kernel
theorem dX12_layersSo_50 : decode cX12_layersSo 50 = .ok (.iload 5, 2) := by decide +kernel
theorem dX12_layersSo_52 : decode cX12_layersSo 52 = .ok (.iconst 2, 1) := by decide +kernel
theorem dX12_layersSo_53 : decode cX12_layersSo 53 = .ok (.invokevirtual 339, 3) := by decide +kernel
theorem dX12_layersSo_56 : decode cX12_layersSo 56 = .ok (.iload_n 3, 1) := by decide +kernel
theorem dX12_layersSo_57 : decode cX12_layersSo 57 = .ok (.if_icmp .ne 7, 3) := by decide +kernel
theorem dX12_layersSo_60 : decode cX12_layersSo 60 = .ok (.iconst 1, 1) := by decide +kernel
theorem dX12_layersSo_61 : decode cX12_layersSo 61 = .ok (.goto 96, 3) := by decide +kernel
theorem dX12_layersSo_64 : decode cX12_layersSo 64 = .ok (.iconst 0, 1) := by decide +kernel
theorem dX12_layersSo_65 : decode cX12_layersSo 65 = .ok (.goto 92, 3) := by decide +kernel
theorem dX12_layersSo_68 : decode cX12_layersSo 68 = .ok (.iload_n 3, 1) := by decide +kernel
theorem dX12_layersSo_69 : decode cX12_layersSo 69 = .ok (.bipush 10, 2) := by decide +kernel
theorem dX12_layersSo_71 : decode cX12_layersSo 71 = .ok (.if_icmp .gt 26, 3) := by decide +kernel
theorem dX12_layersSo_74 : decode cX12_layersSo 74 = .ok (.aload_n 0, 1) := by decide +kernel
theorem dX12_layersSo_75 : decode cX12_layersSo 75 = .ok (.iload_n 1, 1) := by decide +kernel
theorem dX12_layersSo_76 : decode cX12_layersSo 76 = .ok (.iload 5, 2) := by decide +kernel
theorem dX12_layersSo_78 : decode cX12_layersSo 78 = .ok (.iconst 3, 1) := by decide +kernel
theorem dX12_layersSo_79 : decode cX12_layersSo 79 = .ok (.invokevirtual 339, 3) := by decide +kernel
theorem dX12_layersSo_82 : decode cX12_layersSo 82 = .ok (.iload_n 3, 1) := by decide +kernel
theorem dX12_layersSo_83 : decode cX12_layersSo 83 = .ok (.bipush 6, 2) := by decide +kernel
theorem dX12_layersSo_85 : decode cX12_layersSo 85 = .ok (.isub, 1) := by decide +kernel
theorem dX12_layersSo_86 : decode cX12_layersSo 86 = .ok (.if_icmp .ne 7, 3) := by decide +kernel
theorem dX12_layersSo_89 : decode cX12_layersSo 89 = .ok (.iconst 1, 1) := by decide +kernel
theorem dX12_layersSo_90 : decode cX12_layersSo 90 = .ok (.goto 67, 3) := by decide +kernel
theorem dX12_layersSo_93 : decode cX12_layersSo 93 = .ok (.iconst 0, 1) := by decide +kernel
theorem dX12_layersSo_94 : decode cX12_layersSo 94 = .ok (.goto 63, 3) := by decide +kernel
theorem dX12_layersSo_97 : decode cX12_layersSo 97 = .ok (.iload_n 3, 1) := by decide +kernel
theorem dX12_layersSo_98 : decode cX12_layersSo 98 = .ok (.bipush 11, 2) := by decide +kernel
theorem dX12_layersSo_100 : decode cX12_layersSo 100 = .ok (.if_icmp .ne 23, 3) := by decide +kernel
theorem dX12_layersSo_103 : decode cX12_layersSo 103 = .ok (.aload_n 0, 1) := by decide +kernel
theorem dX12_layersSo_104 : decode cX12_layersSo 104 = .ok (.iload_n 1, 1) := by decide +kernel
theorem dX12_layersSo_105 : decode cX12_layersSo 105 = .ok (.iload 5, 2) := by decide +kernel
theorem dX12_layersSo_107 : decode cX12_layersSo 107 = .ok (.iconst 4, 1) := by decide +kernel
theorem dX12_layersSo_108 : decode cX12_layersSo 108 = .ok (.invokevirtual 339, 3) := by decide +kernel
theorem dX12_layersSo_111 : decode cX12_layersSo 111 = .ok (.iconst 1, 1) := by decide +kernel
theorem dX12_layersSo_112 : decode cX12_layersSo 112 = .ok (.if_icmp .ne 7, 3) := by decide +kernel
theorem dX12_layersSo_115 : decode cX12_layersSo 115 = .ok (.iconst 1, 1) := by decide +kernel
theorem dX12_layersSo_116 : decode cX12_layersSo 116 = .ok (.goto 41, 3) := by decide +kernel
theorem dX12_layersSo_119 : decode cX12_layersSo 119 = .ok (.iconst 0, 1) := by decide +kernel
theorem dX12_layersSo_120 : decode cX12_layersSo 120 = .ok (.goto 37, 3) := by decide +kernel
theorem dX12_layersSo_123 : decode cX12_layersSo 123 = .ok (.iload_n 3, 1) := by decide +kernel
theorem dX12_layersSo_124 : decode cX12_layersSo 124 = .ok (.bipush 12, 2) := by decide +kernel
theorem dX12_layersSo_126 : decode cX12_layersSo 126 = .ok (.if_icmp .ne 14, 3) := by decide +kernel
theorem dX12_layersSo_129 : decode cX12_layersSo 129 = .ok (.aload_n 0, 1) := by decide +kernel
theorem dX12_layersSo_130 : decode cX12_layersSo 130 = .ok (.iload_n 1, 1) := by decide +kernel
theorem dX12_layersSo_131 : decode cX12_layersSo 131 = .ok (.iload 5, 2) := by decide +kernel
theorem dX12_layersSo_133 : decode cX12_layersSo 133 = .ok (.iconst 5, 1) := by decide +kernel
theorem dX12_layersSo_134 : decode cX12_layersSo 134 = .ok (.invokevirtual 339, 3) := by decide +kernel
theorem dX12_layersSo_137 : decode cX12_layersSo 137 = .ok (.goto 5, 3) := by decide +kernel
theorem dX12_layersSo_140 : decode cX12_layersSo 140 = .ok (.iload 6, 2) := by decide +kernel
theorem dX12_layersSo_142 : decode cX12_layersSo 142 = .ok (.aload_n 0, 1) := by decide +kernel
theorem dX12_layersSo_143 : decode cX12_layersSo 143 = .ok (.getfield 96, 3) := by decide +kernel
theorem dX12_layersSo_146 : decode cX12_layersSo 146 = .ok (.iload_n 2, 1) := by decide +kernel
theorem dX12_layersSo_147 : decode cX12_layersSo 147 = .ok (.iaload, 1) := by decide +kernel
theorem dX12_layersSo_148 : decode cX12_layersSo 148 = .ok (.aload_n 0, 1) := by decide +kernel
theorem dX12_layersSo_149 : decode cX12_layersSo 149 = .ok (.getfield 99, 3) := by decide +kernel
theorem dX12_layersSo_152 : decode cX12_layersSo 152 = .ok (.iload_n 2, 1) := by decide +kernel
theorem dX12_layersSo_153 : decode cX12_layersSo 153 = .ok (.iaload, 1) := by decide +kernel
theorem dX12_layersSo_154 : decode cX12_layersSo 154 = .ok (.invokestatic 343, 3) := by decide +kernel
theorem dX12_layersSo_157 : decode cX12_layersSo 157 = .ok (.istore 7, 2) := by decide +kernel
theorem dX12_layersSo_159 : decode cX12_layersSo 159 = .ok (.iload 4, 2) := by decide +kernel
theorem dX12_layersSo_161 : decode cX12_layersSo 161 = .ok (.iload 7, 2) := by decide +kernel
theorem dX12_layersSo_163 : decode cX12_layersSo 163 = .ok (.ifCond .eq 10, 3) := by decide +kernel
theorem dX12_layersSo_166 : decode cX12_layersSo 166 = .ok (.iconst 1, 1) := by decide +kernel
theorem dX12_layersSo_167 : decode cX12_layersSo 167 = .ok (.iload 5, 2) := by decide +kernel
theorem dX12_layersSo_169 : decode cX12_layersSo 169 = .ok (.ishl, 1) := by decide +kernel
theorem dX12_layersSo_170 : decode cX12_layersSo 170 = .ok (.goto 4, 3) := by decide +kernel
theorem dX12_layersSo_173 : decode cX12_layersSo 173 = .ok (.iconst 0, 1) := by decide +kernel
theorem dX12_layersSo_174 : decode cX12_layersSo 174 = .ok (.ior, 1) := by decide +kernel
theorem dX12_layersSo_175 : decode cX12_layersSo 175 = .ok (.istore 4, 2) := by decide +kernel
theorem dX12_layersSo_177 : decode cX12_layersSo 177 = .ok (.iinc 5 1, 3) := by decide +kernel
theorem dX12_layersSo_180 : decode cX12_layersSo 180 = .ok (.goto (-167), 3) := by decide +kernel
theorem dX12_layersSo_183 : decode cX12_layersSo 183 = .ok (.iload 4, 2) := by decide +kernel
theorem dX12_layersSo_185 : decode cX12_layersSo 185 = .ok (.ireturn, 1) := by decide +kernel
theorem dX12_isSo_0 : decode cX12_isSo 0 = .ok (.iconst 0, 1) := by decide +kernel
theorem dX12_isSo_1 : decode cX12_isSo 1 = .ok (.istore 4, 2) := by decide +kernel
theorem dX12_isSo_3 : decode cX12_isSo 3 = .ok (.sipush 999, 3) := by decide +kernel
theorem dX12_isSo_6 : decode cX12_isSo 6 = .ok (.istore 5, 2) := by decide +kernel
theorem dX12_isSo_8 : decode cX12_isSo 8 = .ok (.iconst 0, 1) := by decide +kernel
theorem dX12_isSo_9 : decode cX12_isSo 9 = .ok (.istore 6, 2) := by decide +kernel
theorem dX12_isSo_11 : decode cX12_isSo 11 = .ok (.aload_n 0, 1) := by decide +kernel
theorem dX12_isSo_12 : decode cX12_isSo 12 = .ok (.getfield 68, 3) := by decide +kernel
theorem dX12_isSo_15 : decode cX12_isSo 15 = .ok (.iload_n 1, 1) := by decide +kernel
theorem dX12_isSo_16 : decode cX12_isSo 16 = .ok (.iaload, 1) := by decide +kernel
theorem dX12_isSo_17 : decode cX12_isSo 17 = .ok (.iconst 1, 1) := by decide +kernel
theorem dX12_isSo_18 : decode cX12_isSo 18 = .ok (.isub, 1) := by decide +kernel
theorem dX12_isSo_19 : decode cX12_isSo 19 = .ok (.istore 7, 2) := by decide +kernel
theorem dX12_isSo_21 : decode cX12_isSo 21 = .ok (.iload 7, 2) := by decide +kernel
theorem dX12_isSo_23 : decode cX12_isSo 23 = .ok (.ifCond .lt 99, 3) := by decide +kernel
theorem dX12_isSo_26 : decode cX12_isSo 26 = .ok (.iload_n 3, 1) := by decide +kernel
theorem dX12_isSo_27 : decode cX12_isSo 27 = .ok (.iload 7, 2) := by decide +kernel
theorem dX12_isSo_29 : decode cX12_isSo 29 = .ok (.ishr, 1) := by decide +kernel
theorem dX12_isSo_30 : decode cX12_isSo 30 = .ok (.iconst 1, 1) := by decide +kernel
theorem dX12_isSo_31 : decode cX12_isSo 31 = .ok (.iand, 1) := by decide +kernel
theorem dX12_isSo_32 : decode cX12_isSo 32 = .ok (.ifCond .ne 6, 3) := by decide +kernel
theorem dX12_isSo_35 : decode cX12_isSo 35 = .ok (.goto 81, 3) := by decide +kernel
theorem dX12_isSo_38 : decode cX12_isSo 38 = .ok (.iload 4, 2) := by decide +kernel
theorem dX12_isSo_40 : decode cX12_isSo 40 = .ok (.aload_n 0, 1) := by decide +kernel
theorem dX12_isSo_41 : decode cX12_isSo 41 = .ok (.iload_n 1, 1) := by decide +kernel
theorem dX12_isSo_42 : decode cX12_isSo 42 = .ok (.iload 7, 2) := by decide +kernel
theorem dX12_isSo_44 : decode cX12_isSo 44 = .ok (.iconst 1, 1) := by decide +kernel
theorem dX12_isSo_45 : decode cX12_isSo 45 = .ok (.invokevirtual 339, 3) := by decide +kernel
theorem dX12_isSo_48 : decode cX12_isSo 48 = .ok (.aload_n 0, 1) := by decide +kernel
theorem dX12_isSo_49 : decode cX12_isSo 49 = .ok (.iload_n 1, 1) := by decide +kernel
theorem dX12_isSo_50 : decode cX12_isSo 50 = .ok (.iload 7, 2) := by decide +kernel
theorem dX12_isSo_52 : decode cX12_isSo 52 = .ok (.iconst 0, 1) := by decide +kernel
theorem dX12_isSo_53 : decode cX12_isSo 53 = .ok (.invokevirtual 339, 3) := by decide +kernel
theorem dX12_isSo_56 : decode cX12_isSo 56 = .ok (.isub, 1) := by decide +kernel
theorem dX12_isSo_57 : decode cX12_isSo 57 = .ok (.iadd, 1) := by decide +kernel
theorem dX12_isSo_58 : decode cX12_isSo 58 = .ok (.istore 4, 2) := by decide +kernel
theorem dX12_isSo_60 : decode cX12_isSo 60 = .ok (.aload_n 0, 1) := by decide +kernel
theorem dX12_isSo_61 : decode cX12_isSo 61 = .ok (.iload_n 1, 1) := by decide +kernel
theorem dX12_isSo_62 : decode cX12_isSo 62 = .ok (.iload 7, 2) := by decide +kernel
theorem dX12_isSo_64 : decode cX12_isSo 64 = .ok (.iconst 0, 1) := by decide +kernel
theorem dX12_isSo_65 : decode cX12_isSo 65 = .ok (.invokevirtual 339, 3) := by decide +kernel
theorem dX12_isSo_68 : decode cX12_isSo 68 = .ok (.istore 5, 2) := by decide +kernel
theorem dX12_isSo_70 : decode cX12_isSo 70 = .ok (.iload 6, 2) := by decide +kernel
theorem dX12_isSo_72 : decode cX12_isSo 72 = .ok (.ifCond .ne 37, 3) := by decide +kernel
theorem dX12_isSo_75 : decode cX12_isSo 75 = .ok (.aload_n 0, 1) := by decide +kernel
theorem dX12_isSo_76 : decode cX12_isSo 76 = .ok (.iload_n 1, 1) := by decide +kernel
theorem dX12_isSo_77 : decode cX12_isSo 77 = .ok (.iload 7, 2) := by decide +kernel
theorem dX12_isSo_79 : decode cX12_isSo 79 = .ok (.iconst 0, 1) := by decide +kernel
theorem dX12_isSo_80 : decode cX12_isSo 80 = .ok (.invokevirtual 339, 3) := by decide +kernel
theorem dX12_isSo_83 : decode cX12_isSo 83 = .ok (.aload_n 0, 1) := by decide +kernel
theorem dX12_isSo_84 : decode cX12_isSo 84 = .ok (.getfield 99, 3) := by decide +kernel
theorem dX12_isSo_87 : decode cX12_isSo 87 = .ok (.iload_n 2, 1) := by decide +kernel
theorem dX12_isSo_88 : decode cX12_isSo 88 = .ok (.iaload, 1) := by decide +kernel
theorem dX12_isSo_89 : decode cX12_isSo 89 = .ok (.if_icmp .gt 24, 3) := by decide +kernel
theorem dX12_isSo_92 : decode cX12_isSo 92 = .ok (.aload_n 0, 1) := by decide +kernel
theorem dX12_isSo_93 : decode cX12_isSo 93 = .ok (.getfield 99, 3) := by decide +kernel
theorem dX12_isSo_96 : decode cX12_isSo 96 = .ok (.iload_n 2, 1) := by decide +kernel
theorem dX12_isSo_97 : decode cX12_isSo 97 = .ok (.iaload, 1) := by decide +kernel
theorem dX12_isSo_98 : decode cX12_isSo 98 = .ok (.aload_n 0, 1) := by decide +kernel
theorem dX12_isSo_99 : decode cX12_isSo 99 = .ok (.iload_n 1, 1) := by decide +kernel
theorem dX12_isSo_100 : decode cX12_isSo 100 = .ok (.iload 7, 2) := by decide +kernel
theorem dX12_isSo_102 : decode cX12_isSo 102 = .ok (.iconst 1, 1) := by decide +kernel
theorem dX12_isSo_103 : decode cX12_isSo 103 = .ok (.invokevirtual 339, 3) := by decide +kernel
theorem dX12_isSo_106 : decode cX12_isSo 106 = .ok (.if_icmp .ge 7, 3) := by decide +kernel
theorem dX12_isSo_109 : decode cX12_isSo 109 = .ok (.iconst 1, 1) := by decide +kernel
theorem dX12_isSo_110 : decode cX12_isSo 110 = .ok (.goto 4, 3) := by decide +kernel
theorem dX12_isSo_113 : decode cX12_isSo 113 = .ok (.iconst 0, 1) := by decide +kernel
theorem dX12_isSo_114 : decode cX12_isSo 114 = .ok (.istore 6, 2) := by decide +kernel
theorem dX12_isSo_116 : decode cX12_isSo 116 = .ok (.iinc 7 (-1), 3) := by decide +kernel
theorem dX12_isSo_119 : decode cX12_isSo 119 = .ok (.goto (-98), 3) := by decide +kernel
theorem dX12_isSo_122 : decode cX12_isSo 122 = .ok (.aload_n 0, 1) := by decide +kernel
