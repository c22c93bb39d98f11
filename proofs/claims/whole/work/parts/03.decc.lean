theorem dX11_bore_100 : decode cX11_bore 100 = .ok (.iload_n 2, 1) := by decide +kernel
theorem dX11_bore_101 : decode cX11_bore 101 = .ok (.putfield 161, 3) := by decide +kernel
theorem dX11_bore_104 : decode cX11_bore 104 = .ok (.aload 4, 2) := by decide +kernel
theorem dX11_bore_106 : decode cX11_bore 106 = .ok (.iload_n 3, 1) := by decide +kernel
theorem dX11_bore_107 : decode cX11_bore 107 = .ok (.putfield 164, 3) := by decide +kernel
theorem dX11_bore_110 : decode cX11_bore 110 = .ok (.aload 4, 2) := by decide +kernel
theorem dX11_bore_112 : decode cX11_bore 112 = .ok (.aload_n 0, 1) := by decide +kernel
theorem dX11_bore_113 : decode cX11_bore 113 = .ok (.getfield 34, 3) := by decide +kernel
theorem dX11_bore_116 : decode cX11_bore 116 = .ok (.invokevirtual 167, 3) := by decide +kernel
theorem dX11_bore_119 : decode cX11_bore 119 = .ok (.aload_n 0, 1) := by decide +kernel
theorem dX11_bore_120 : decode cX11_bore 120 = .ok (.getfield 52, 3) := by decide +kernel
theorem dX11_bore_123 : decode cX11_bore 123 = .ok (.dup, 1) := by decide +kernel
theorem dX11_bore_124 : decode cX11_bore 124 = .ok (.getfield 145, 3) := by decide +kernel
theorem dX11_bore_127 : decode cX11_bore 127 = .ok (.iconst 1, 1) := by decide +kernel
theorem dX11_bore_128 : decode cX11_bore 128 = .ok (.iadd, 1) := by decide +kernel
theorem dX11_bore_129 : decode cX11_bore 129 = .ok (.putfield 145, 3) := by decide +kernel
theorem dX11_bore_132 : decode cX11_bore 132 = .ok (.aload_n 0, 1) := by decide +kernel
theorem dX11_bore_133 : decode cX11_bore 133 = .ok (.getfield 52, 3) := by decide +kernel
theorem dX11_bore_136 : decode cX11_bore 136 = .ok (.getfield 145, 3) := by decide +kernel
theorem dX11_bore_139 : decode cX11_bore 139 = .ok (.iconst 1, 1) := by decide +kernel
theorem dX11_bore_140 : decode cX11_bore 140 = .ok (.isub, 1) := by decide +kernel
theorem dX11_bore_141 : decode cX11_bore 141 = .ok (.ireturn, 1) := by decide +kernel
theorem dX11_fault_0 : decode cX11_fault 0 = .ok (.iload_n 1, 1) := by decide +kernel
theorem dX11_fault_1 : decode cX11_fault 1 = .ok (.ifCond .ne 10, 3) := by decide +kernel
theorem dX11_fault_4 : decode cX11_fault 4 = .ok (.aload_n 0, 1) := by decide +kernel
theorem dX11_fault_5 : decode cX11_fault 5 = .ok (.getfield 170, 3) := by decide +kernel
theorem dX11_fault_8 : decode cX11_fault 8 = .ok (.goto 16, 3) := by decide +kernel
theorem dX11_fault_11 : decode cX11_fault 11 = .ok (.iload_n 1, 1) := by decide +kernel
theorem dX11_fault_12 : decode cX11_fault 12 = .ok (.iconst 1, 1) := by decide +kernel
theorem dX11_fault_13 : decode cX11_fault 13 = .ok (.if_icmp .ne 10, 3) := by decide +kernel
theorem dX11_fault_16 : decode cX11_fault 16 = .ok (.aload_n 0, 1) := by decide +kernel
theorem dX11_fault_17 : decode cX11_fault 17 = .ok (.getfield 38, 3) := by decide +kernel
theorem dX11_fault_20 : decode cX11_fault 20 = .ok (.goto 4, 3) := by decide +kernel
theorem dX11_fault_23 : decode cX11_fault 23 = .ok (.iconst (-1), 1) := by decide +kernel
theorem dX11_fault_24 : decode cX11_fault 24 = .ok (.ireturn, 1) := by decide +kernel
theorem dX11_strike_0 : decode cX11_strike 0 = .ok (.aload_n 0, 1) := by decide +kernel
theorem dX11_strike_1 : decode cX11_strike 1 = .ok (.getfield 52, 3) := by decide +kernel
theorem dX11_strike_4 : decode cX11_strike 4 = .ok (.iload_n 1, 1) := by decide +kernel
theorem dX11_strike_5 : decode cX11_strike 5 = .ok (.invokevirtual 173, 3) := by decide +kernel
theorem dX11_strike_8 : decode cX11_strike 8 = .ok (.ifCond .eq 15, 3) := by decide +kernel
theorem dX11_strike_11 : decode cX11_strike 11 = .ok (.aload_n 0, 1) := by decide +kernel
theorem dX11_strike_12 : decode cX11_strike 12 = .ok (.getfield 52, 3) := by decide +kernel
theorem dX11_strike_15 : decode cX11_strike 15 = .ok (.getfield 145, 3) := by decide +kernel
theorem dX11_strike_18 : decode cX11_strike 18 = .ok (.bipush 60, 2) := by decide +kernel
theorem dX11_strike_20 : decode cX11_strike 20 = .ok (.if_icmp .lt 5, 3) := by decide +kernel
theorem dX11_strike_23 : decode cX11_strike 23 = .ok (.iconst (-1), 1) := by decide +kernel
theorem dX11_strike_24 : decode cX11_strike 24 = .ok (.ireturn, 1) := by decide +kernel
theorem dX11_strike_25 : decode cX11_strike 25 = .ok (.aload_n 0, 1) := by decide +kernel
theorem dX11_strike_26 : decode cX11_strike 26 = .ok (.getfield 52, 3) := by decide +kernel
theorem dX11_strike_29 : decode cX11_strike 29 = .ok (.getfield 148, 3) := by decide +kernel
theorem dX11_strike_32 : decode cX11_strike 32 = .ok (.aload_n 0, 1) := by decide +kernel
theorem dX11_strike_33 : decode cX11_strike 33 = .ok (.getfield 52, 3) := by decide +kernel
theorem dX11_strike_36 : decode cX11_strike 36 = .ok (.getfield 145, 3) := by decide +kernel
theorem dX11_strike_39 : decode cX11_strike 39 = .ok (.aaload, 1) := by decide +kernel
theorem dX11_strike_40 : decode cX11_strike 40 = .ok (.iload_n 1, 1) := by decide +kernel
theorem dX11_strike_41 : decode cX11_strike 41 = .ok (.putfield 158, 3) := by decide +kernel
theorem dX11_strike_44 : decode cX11_strike 44 = .ok (.aload_n 0, 1) := by decide +kernel
theorem dX11_strike_45 : decode cX11_strike 45 = .ok (.getfield 52, 3) := by decide +kernel
theorem dX11_strike_48 : decode cX11_strike 48 = .ok (.dup, 1) := by decide +kernel
theorem dX11_strike_49 : decode cX11_strike 49 = .ok (.getfield 145, 3) := by decide +kernel
theorem dX11_strike_52 : decode cX11_strike 52 = .ok (.iconst 1, 1) := by decide +kernel
theorem dX11_strike_53 : decode cX11_strike 53 = .ok (.iadd, 1) := by decide +kernel
theorem dX11_strike_54 : decode cX11_strike 54 = .ok (.putfield 145, 3) := by decide +kernel
theorem dX11_strike_57 : decode cX11_strike 57 = .ok (.aload_n 0, 1) := by decide +kernel
theorem dX11_strike_58 : decode cX11_strike 58 = .ok (.getfield 52, 3) := by decide +kernel
theorem dX11_strike_61 : decode cX11_strike 61 = .ok (.getfield 145, 3) := by decide +kernel
theorem dX11_strike_64 : decode cX11_strike 64 = .ok (.iconst 1, 1) := by decide +kernel
theorem dX11_strike_65 : decode cX11_strike 65 = .ok (.isub, 1) := by decide +kernel
theorem dX11_strike_66 : decode cX11_strike 66 = .ok (.ireturn, 1) := by decide +kernel
theorem dX11_land_0 : decode cX11_land 0 = .ok (.iload_n 1, 1) := by decide +kernel
theorem dX11_land_1 : decode cX11_land 1 = .ok (.iconst 2, 1) := by decide +kernel
theorem dX11_land_2 : decode cX11_land 2 = .ok (.if_icmp .lt 20, 3) := by decide +kernel
theorem dX11_land_5 : decode cX11_land 5 = .ok (.iload_n 1, 1) := by decide +kernel
theorem dX11_land_6 : decode cX11_land 6 = .ok (.bipush 8, 2) := by decide +kernel
theorem dX11_land_8 : decode cX11_land 8 = .ok (.if_icmp .gt 14, 3) := by decide +kernel
theorem dX11_land_11 : decode cX11_land 11 = .ok (.iload_n 2, 1) := by decide +kernel
theorem dX11_land_12 : decode cX11_land 12 = .ok (.iconst 2, 1) := by decide +kernel
theorem dX11_land_13 : decode cX11_land 13 = .ok (.if_icmp .lt 9, 3) := by decide +kernel
theorem dX11_land_16 : decode cX11_land 16 = .ok (.iload_n 2, 1) := by decide +kernel
theorem dX11_land_17 : decode cX11_land 17 = .ok (.bipush 8, 2) := by decide +kernel
theorem dX11_land_19 : decode cX11_land 19 = .ok (.if_icmp .le 5, 3) := by decide +kernel
theorem dX11_land_22 : decode cX11_land 22 = .ok (.iconst 0, 1) := by decide +kernel
theorem dX11_land_23 : decode cX11_land 23 = .ok (.ireturn, 1) := by decide +kernel
theorem dX11_land_24 : decode cX11_land 24 = .ok (.aload_n 0, 1) := by decide +kernel
theorem dX11_land_25 : decode cX11_land 25 = .ok (.getfield 45, 3) := by decide +kernel
theorem dX11_land_28 : decode cX11_land 28 = .ok (.iload_n 1, 1) := by decide +kernel
theorem dX11_land_29 : decode cX11_land 29 = .ok (.iload_n 2, 1) := by decide +kernel
theorem dX11_land_30 : decode cX11_land 30 = .ok (.invokevirtual 176, 3) := by decide +kernel
theorem dX11_land_33 : decode cX11_land 33 = .ok (.aload_n 0, 1) := by decide +kernel
theorem dX11_land_34 : decode cX11_land 34 = .ok (.getfield 52, 3) := by decide +kernel
theorem dX11_land_37 : decode cX11_land 37 = .ok (.iconst 0, 1) := by decide +kernel
theorem dX11_land_38 : decode cX11_land 38 = .ok (.putfield 145, 3) := by decide +kernel
theorem dX11_land_41 : decode cX11_land 41 = .ok (.iconst 1, 1) := by decide +kernel
theorem dX11_land_42 : decode cX11_land 42 = .ok (.ireturn, 1) := by decide +kernel
theorem dX11_ground_0 : decode cX11_ground 0 = .ok (.aload_n 0, 1) := by decide +kernel
theorem dX11_ground_1 : decode cX11_ground 1 = .ok (.getfield 45, 3) := by decide +kernel
theorem dX11_ground_4 : decode cX11_ground 4 = .ok (.iload_n 1, 1) := by decide +kernel
theorem dX11_ground_5 : decode cX11_ground 5 = .ok (.invokevirtual 142, 3) := by decide +kernel
theorem dX11_ground_8 : decode cX11_ground 8 = .ok (.ifCond .eq 20, 3) := by decide +kernel
theorem dX11_ground_11 : decode cX11_ground 11 = .ok (.aload_n 0, 1) := by decide +kernel
theorem dX11_ground_12 : decode cX11_ground 12 = .ok (.getfield 45, 3) := by decide +kernel
theorem dX11_ground_15 : decode cX11_ground 15 = .ok (.iload_n 1, 1) := by decide +kernel
theorem dX11_ground_16 : decode cX11_ground 16 = .ok (.iload_n 2, 1) := by decide +kernel
theorem dX11_ground_17 : decode cX11_ground 17 = .ok (.iload_n 3, 1) := by decide +kernel
theorem dX11_ground_18 : decode cX11_ground 18 = .ok (.invokevirtual 180, 3) := by decide +kernel
theorem dX11_ground_21 : decode cX11_ground 21 = .ok (.ifCond .eq 7, 3) := by decide +kernel
theorem dX11_ground_24 : decode cX11_ground 24 = .ok (.iconst 1, 1) := by decide +kernel
theorem dX11_ground_25 : decode cX11_ground 25 = .ok (.goto 4, 3) := by decide +kernel
theorem dX11_ground_28 : decode cX11_ground 28 = .ok (.iconst 0, 1) := by decide +kernel
theorem dX11_ground_29 : decode cX11_ground 29 = .ok (.ireturn, 1) := by decide +kernel
theorem dX11_bounds_0 : decode cX11_bounds 0 = .ok (.aload_n 0, 1) := by decide +kernel
theorem dX11_bounds_1 : decode cX11_bounds 1 = .ok (.getfield 45, 3) := by decide +kernel
theorem dX11_bounds_4 : decode cX11_bounds 4 = .ok (.iload_n 1, 1) := by decide +kernel
theorem dX11_bounds_5 : decode cX11_bounds 5 = .ok (.iload_n 2, 1) := by decide +kernel
theorem dX11_bounds_6 : decode cX11_bounds 6 = .ok (.iload_n 3, 1) := by decide +kernel
theorem dX11_bounds_7 : decode cX11_bounds 7 = .ok (.invokevirtual 184, 3) := by decide +kernel
theorem dX11_bounds_10 : decode cX11_bounds 10 = .ok (.ireturn, 1) := by decide +kernel
theorem dX11_price_0 : decode cX11_price 0 = .ok (.iload_n 1, 1) := by decide +kernel
theorem dX11_price_1 : decode cX11_price 1 = .ok (.ifCond .lt 19, 3) := by decide +kernel
theorem dX11_price_4 : decode cX11_price 4 = .ok (.iload_n 1, 1) := by decide +kernel
theorem dX11_price_5 : decode cX11_price 5 = .ok (.iconst 1, 1) := by decide +kernel
theorem dX11_price_6 : decode cX11_price 6 = .ok (.if_icmp .gt 14, 3) := by decide +kernel
theorem dX11_price_9 : decode cX11_price 9 = .ok (.iload_n 2, 1) := by decide +kernel
theorem dX11_price_10 : decode cX11_price 10 = .ok (.ifCond .lt 10, 3) := by decide +kernel
theorem dX11_price_13 : decode cX11_price 13 = .ok (.iload_n 2, 1) := by decide +kernel
theorem dX11_price_14 : decode cX11_price 14 = .ok (.sipush 9999, 3) := by decide +kernel
theorem dX11_price_17 : decode cX11_price 17 = .ok (.if_icmp .le 5, 3) := by decide +kernel
theorem dX11_price_20 : decode cX11_price 20 = .ok (.iconst 0, 1) := by decide +kernel
theorem dX11_price_21 : decode cX11_price 21 = .ok (.ireturn, 1) := by decide +kernel
theorem dX11_price_22 : decode cX11_price 22 = .ok (.iload_n 1, 1) := by decide +kernel
theorem dX11_price_23 : decode cX11_price 23 = .ok (.ifCond .ne 14, 3) := by decide +kernel
theorem dX11_price_26 : decode cX11_price 26 = .ok (.aload_n 0, 1) := by decide +kernel
theorem dX11_price_27 : decode cX11_price 27 = .ok (.getfield 70, 3) := by decide +kernel
theorem dX11_price_30 : decode cX11_price 30 = .ok (.iload_n 2, 1) := by decide +kernel
theorem dX11_price_31 : decode cX11_price 31 = .ok (.putfield 187, 3) := by decide +kernel
theorem dX11_price_34 : decode cX11_price 34 = .ok (.goto 11, 3) := by decide +kernel
theorem dX11_price_37 : decode cX11_price 37 = .ok (.aload_n 0, 1) := by decide +kernel
theorem dX11_price_38 : decode cX11_price 38 = .ok (.getfield 70, 3) := by decide +kernel
theorem dX11_price_41 : decode cX11_price 41 = .ok (.iload_n 2, 1) := by decide +kernel
theorem dX11_price_42 : decode cX11_price 42 = .ok (.putfield 190, 3) := by decide +kernel
theorem dX11_price_45 : decode cX11_price 45 = .ok (.iconst 1, 1) := by decide +kernel
theorem dX11_price_46 : decode cX11_price 46 = .ok (.ireturn, 1) := by decide +kernel
theorem dX11_reads_0 : decode cX11_reads 0 = .ok (.iload_n 1, 1) := by decide +kernel
theorem dX11_reads_1 : decode cX11_reads 1 = .ok (.invokestatic 138, 3) := by decide +kernel
theorem dX11_reads_4 : decode cX11_reads 4 = .ok (.ifCond .eq 11, 3) := by decide +kernel
theorem dX11_reads_7 : decode cX11_reads 7 = .ok (.aload_n 0, 1) := by decide +kernel
theorem dX11_reads_8 : decode cX11_reads 8 = .ok (.iload_n 2, 1) := by decide +kernel
theorem dX11_reads_9 : decode cX11_reads 9 = .ok (.invokevirtual 193, 3) := by decide +kernel
theorem dX11_reads_12 : decode cX11_reads 12 = .ok (.ifCond .ne 5, 3) := by decide +kernel
theorem dX11_reads_15 : decode cX11_reads 15 = .ok (.iconst 0, 1) := by decide +kernel
theorem dX11_reads_16 : decode cX11_reads 16 = .ok (.ireturn, 1) := by decide +kernel
theorem dX11_reads_17 : decode cX11_reads 17 = .ok (.aload_n 0, 1) := by decide +kernel
theorem dX11_reads_18 : decode cX11_reads 18 = .ok (.getfield 61, 3) := by decide +kernel
theorem dX11_reads_21 : decode cX11_reads 21 = .ok (.iconst 0, 1) := by decide +kernel
theorem dX11_reads_22 : decode cX11_reads 22 = .ok (.iload_n 3, 1) := by decide +kernel
theorem dX11_reads_23 : decode cX11_reads 23 = .ok (.invokevirtual 196, 3) := by decide +kernel
theorem dX11_reads_26 : decode cX11_reads 26 = .ok (.aload_n 0, 1) := by decide +kernel
theorem dX11_reads_27 : decode cX11_reads 27 = .ok (.getfield 61, 3) := by decide +kernel
theorem dX11_reads_30 : decode cX11_reads 30 = .ok (.iconst 2, 1) := by decide +kernel
theorem dX11_reads_31 : decode cX11_reads 31 = .ok (.iload 4, 2) := by decide +kernel
theorem dX11_reads_33 : decode cX11_reads 33 = .ok (.invokevirtual 196, 3) := by decide +kernel
theorem dX11_reads_36 : decode cX11_reads 36 = .ok (.aload_n 0, 1) := by decide +kernel
theorem dX11_reads_37 : decode cX11_reads 37 = .ok (.getfield 61, 3) := by decide +kernel
theorem dX11_reads_40 : decode cX11_reads 40 = .ok (.iconst 4, 1) := by decide +kernel
theorem dX11_reads_41 : decode cX11_reads 41 = .ok (.iload 5, 2) := by decide +kernel
theorem dX11_reads_43 : decode cX11_reads 43 = .ok (.invokevirtual 196, 3) := by decide +kernel
theorem dX11_reads_46 : decode cX11_reads 46 = .ok (.aload_n 0, 1) := by decide +kernel
theorem dX11_reads_47 : decode cX11_reads 47 = .ok (.getfield 61, 3) := by decide +kernel
theorem dX11_reads_50 : decode cX11_reads 50 = .ok (.bipush 6, 2) := by decide +kernel
theorem dX11_reads_52 : decode cX11_reads 52 = .ok (.iload 6, 2) := by decide +kernel
theorem dX11_reads_54 : decode cX11_reads 54 = .ok (.invokevirtual 196, 3) := by decide +kernel
theorem dX11_reads_57 : decode cX11_reads 57 = .ok (.aload_n 0, 1) := by decide +kernel
theorem dX11_reads_58 : decode cX11_reads 58 = .ok (.getfield 61, 3) := by decide +kernel
theorem dX11_reads_61 : decode cX11_reads 61 = .ok (.iload_n 1, 1) := by decide +kernel
theorem dX11_reads_62 : decode cX11_reads 62 = .ok (.iload_n 2, 1) := by decide +kernel
theorem dX11_reads_63 : decode cX11_reads 63 = .ok (.invokevirtual 199, 3) := by decide +kernel
theorem dX11_reads_66 : decode cX11_reads 66 = .ok (.ireturn, 1) := by decide +kernel
theorem dX11_value_0 : decode cX11_value 0 = .ok (.aload_n 0, 1) := by decide +kernel
theorem dX11_value_1 : decode cX11_value 1 = .ok (.iload_n 1, 1) := by decide +kernel
theorem dX11_value_2 : decode cX11_value 2 = .ok (.invokevirtual 193, 3) := by decide +kernel
theorem dX11_value_5 : decode cX11_value 5 = .ok (.ifCond .eq 14, 3) := by decide +kernel
theorem dX11_value_8 : decode cX11_value 8 = .ok (.iload_n 2, 1) := by decide +kernel
theorem dX11_value_9 : decode cX11_value 9 = .ok (.ifCond .lt 10, 3) := by decide +kernel
theorem dX11_value_12 : decode cX11_value 12 = .ok (.iload_n 2, 1) := by decide +kernel
theorem dX11_value_13 : decode cX11_value 13 = .ok (.sipush 9999, 3) := by decide +kernel
theorem dX11_value_16 : decode cX11_value 16 = .ok (.if_icmp .le 5, 3) := by decide +kernel
theorem dX11_value_19 : decode cX11_value 19 = .ok (.iconst 0, 1) := by decide +kernel
theorem dX11_value_20 : decode cX11_value 20 = .ok (.ireturn, 1) := by decide +kernel
theorem dX11_value_21 : decode cX11_value 21 = .ok (.aload_n 0, 1) := by decide +kernel
theorem dX11_value_22 : decode cX11_value 22 = .ok (.getfield 101, 3) := by decide +kernel
theorem dX11_value_25 : decode cX11_value 25 = .ok (.iload_n 1, 1) := by decide +kernel
theorem dX11_value_26 : decode cX11_value 26 = .ok (.iload_n 2, 1) := by decide +kernel
theorem dX11_value_27 : decode cX11_value 27 = .ok (.iastore, 1) := by decide +kernel
theorem dX11_value_28 : decode cX11_value 28 = .ok (.iconst 1, 1) := by decide +kernel
theorem dX11_value_29 : decode cX11_value 29 = .ok (.ireturn, 1) := by decide +kernel
theorem dX11_layer_0 : decode cX11_layer 0 = .ok (.aload_n 0, 1) := by decide +kernel
theorem dX11_layer_1 : decode cX11_layer 1 = .ok (.getfield 52, 3) := by decide +kernel
theorem dX11_layer_4 : decode cX11_layer 4 = .ok (.iload_n 1, 1) := by decide +kernel
theorem dX11_layer_5 : decode cX11_layer 5 = .ok (.invokevirtual 203, 3) := by decide +kernel
theorem dX11_layer_8 : decode cX11_layer 8 = .ok (.ifCond .eq 13, 3) := by decide +kernel
theorem dX11_layer_11 : decode cX11_layer 11 = .ok (.iload_n 3, 1) := by decide +kernel
theorem dX11_layer_12 : decode cX11_layer 12 = .ok (.ifCond .lt 9, 3) := by decide +kernel
theorem dX11_layer_15 : decode cX11_layer 15 = .ok (.iload_n 3, 1) := by decide +kernel
theorem dX11_layer_16 : decode cX11_layer 16 = .ok (.bipush 6, 2) := by decide +kernel
theorem dX11_layer_18 : decode cX11_layer 18 = .ok (.if_icmp .lt 5, 3) := by decide +kernel
theorem dX11_layer_21 : decode cX11_layer 21 = .ok (.iconst (-1), 1) := by decide +kernel
theorem dX11_layer_22 : decode cX11_layer 22 = .ok (.ireturn, 1) := by decide +kernel
theorem dX11_layer_23 : decode cX11_layer 23 = .ok (.aload_n 0, 1) := by decide +kernel
theorem dX11_layer_24 : decode cX11_layer 24 = .ok (.getfield 52, 3) := by decide +kernel
theorem dX11_layer_27 : decode cX11_layer 27 = .ok (.getfield 148, 3) := by decide +kernel
theorem dX11_layer_30 : decode cX11_layer 30 = .ok (.iload_n 1, 1) := by decide +kernel
theorem dX11_layer_31 : decode cX11_layer 31 = .ok (.aaload, 1) := by decide +kernel
theorem dX11_layer_32 : decode cX11_layer 32 = .ok (.astore 4, 2) := by decide +kernel
theorem dX11_layer_34 : decode cX11_layer 34 = .ok (.iload_n 2, 1) := by decide +kernel
theorem dX11_layer_35 : decode cX11_layer 35 = .ok (.ifCond .lt 12, 3) := by decide +kernel
theorem dX11_layer_38 : decode cX11_layer 38 = .ok (.iload_n 2, 1) := by decide +kernel
theorem dX11_layer_39 : decode cX11_layer 39 = .ok (.aload 4, 2) := by decide +kernel
theorem dX11_layer_41 : decode cX11_layer 41 = .ok (.getfield 206, 3) := by decide +kernel
theorem dX11_layer_44 : decode cX11_layer 44 = .ok (.if_icmp .lt 7, 3) := by decide +kernel
theorem dX11_layer_47 : decode cX11_layer 47 = .ok (.iconst (-1), 1) := by decide +kernel
theorem dX11_layer_48 : decode cX11_layer 48 = .ok (.goto 10, 3) := by decide +kernel
theorem dX11_layer_51 : decode cX11_layer 51 = .ok (.aload 4, 2) := by decide +kernel
theorem dX11_layer_53 : decode cX11_layer 53 = .ok (.iload_n 2, 1) := by decide +kernel
theorem dX11_layer_54 : decode cX11_layer 54 = .ok (.iload_n 3, 1) := by decide +kernel
theorem dX11_layer_55 : decode cX11_layer 55 = .ok (.invokevirtual 209, 3) := by decide +kernel
theorem dX11_layer_58 : decode cX11_layer 58 = .ok (.ireturn, 1) := by decide +kernel
theorem dX11_told_0 : decode cX11_told 0 = .ok (.aload_n 0, 1) := by decide +kernel
theorem dX11_told_1 : decode cX11_told 1 = .ok (.getfield 52, 3) := by decide +kernel
theorem dX11_told_4 : decode cX11_told 4 = .ok (.iload_n 1, 1) := by decide +kernel
theorem dX11_told_5 : decode cX11_told 5 = .ok (.invokevirtual 203, 3) := by decide +kernel
theorem dX11_told_8 : decode cX11_told 8 = .ok (.ifCond .ne 6, 3) := by decide +kernel
theorem dX11_told_11 : decode cX11_told 11 = .ok (.bipush (-2), 2) := by decide +kernel
theorem dX11_told_13 : decode cX11_told 13 = .ok (.ireturn, 1) := by decide +kernel
theorem dX11_told_14 : decode cX11_told 14 = .ok (.aload_n 0, 1) := by decide +kernel
theorem dX11_told_15 : decode cX11_told 15 = .ok (.getfield 52, 3) := by decide +kernel
theorem dX11_told_18 : decode cX11_told 18 = .ok (.getfield 148, 3) := by decide +kernel
theorem dX11_told_21 : decode cX11_told 21 = .ok (.iload_n 1, 1) := by decide +kernel
theorem dX11_told_22 : decode cX11_told 22 = .ok (.aaload, 1) := by decide +kernel
theorem dX11_told_23 : decode cX11_told 23 = .ok (.astore_n 3, 1) := by decide +kernel
theorem dX11_told_24 : decode cX11_told 24 = .ok (.iload_n 2, 1) := by decide +kernel
theorem dX11_told_25 : decode cX11_told 25 = .ok (.tableswitch 60 0 4 #[35, 40, 45, 50, 55], 35) := by decide +kernel
theorem dX11_told_60 : decode cX11_told 60 = .ok (.aload_n 3, 1) := by decide +kernel
theorem dX11_told_61 : decode cX11_told 61 = .ok (.getfield 161, 3) := by decide +kernel
theorem dX11_told_64 : decode cX11_told 64 = .ok (.ireturn, 1) := by decide +kernel
theorem dX11_told_65 : decode cX11_told 65 = .ok (.aload_n 3, 1) := by decide +kernel
theorem dX11_told_66 : decode cX11_told 66 = .ok (.getfield 164, 3) := by decide +kernel
theorem dX11_told_69 : decode cX11_told 69 = .ok (.ireturn, 1) := by decide +kernel
theorem dX11_told_70 : decode cX11_told 70 = .ok (.aload_n 3, 1) := by decide +kernel
theorem dX11_told_71 : decode cX11_told 71 = .ok (.getfield 206, 3) := by decide +kernel
theorem dX11_told_74 : decode cX11_told 74 = .ok (.ireturn, 1) := by decide +kernel
theorem dX11_told_75 : decode cX11_told 75 = .ok (.aload_n 3, 1) := by decide +kernel
theorem dX11_told_76 : decode cX11_told 76 = .ok (.getfield 213, 3) := by decide +kernel
theorem dX11_told_79 : decode cX11_told 79 = .ok (.ireturn, 1) := by decide +kernel
theorem dX11_told_80 : decode cX11_told 80 = .ok (.aload_n 3, 1) := by decide +kernel
theorem dX11_told_81 : decode cX11_told 81 = .ok (.getfield 216, 3) := by decide +kernel
theorem dX11_told_84 : decode cX11_told 84 = .ok (.ireturn, 1) := by decide +kernel
theorem dX11_told_85 : decode cX11_told 85 = .ok (.bipush (-2), 2) := by decide +kernel
theorem dX11_told_87 : decode cX11_told 87 = .ok (.ireturn, 1) := by decide +kernel
theorem dX11_look_0 : decode cX11_look 0 = .ok (.aload_n 0, 1) := by decide +kernel
theorem dX11_look_1 : decode cX11_look 1 = .ok (.getfield 45, 3) := by decide +kernel
theorem dX11_look_4 : decode cX11_look 4 = .ok (.iload_n 1, 1) := by decide +kernel
theorem dX11_look_5 : decode cX11_look 5 = .ok (.invokevirtual 142, 3) := by decide +kernel
theorem dX11_look_8 : decode cX11_look 8 = .ok (.ifCond .ne 13, 3) := by decide +kernel
theorem dX11_look_11 : decode cX11_look 11 = .ok (.new 219, 3) := by decide +kernel
theorem dX11_look_14 : decode cX11_look 14 = .ok (.dup, 1) := by decide +kernel
theorem dX11_look_15 : decode cX11_look 15 = .ok (.ldc 221, 2) := by decide +kernel
theorem dX11_look_17 : decode cX11_look 17 = .ok (.invokespecial 223, 3) := by decide +kernel
theorem dX11_look_20 : decode cX11_look 20 = .ok (.athrow, 1) := by decide +kernel
theorem dX11_look_21 : decode cX11_look 21 = .ok (.iload_n 2, 1) := by decide +kernel
theorem dX11_look_22 : decode cX11_look 22 = .ok (.ifCond .lt 9, 3) := by decide +kernel
theorem dX11_look_25 : decode cX11_look 25 = .ok (.iload_n 2, 1) := by decide +kernel
theorem dX11_look_26 : decode cX11_look 26 = .ok (.bipush 8, 2) := by decide +kernel
theorem dX11_look_28 : decode cX11_look 28 = .ok (.if_icmp .lt 13, 3) := by decide +kernel
theorem dX11_look_31 : decode cX11_look 31 = .ok (.new 226, 3) := by decide +kernel
theorem dX11_look_34 : decode cX11_look 34 = .ok (.dup, 1) := by decide +kernel
theorem dX11_look_35 : decode cX11_look 35 = .ok (.ldc 228, 2) := by decide +kernel
theorem dX11_look_37 : decode cX11_look 37 = .ok (.invokespecial 230, 3) := by decide +kernel
theorem dX11_look_40 : decode cX11_look 40 = .ok (.athrow, 1) := by decide +kernel
theorem dX11_look_41 : decode cX11_look 41 = .ok (.iload_n 2, 1) := by decide +kernel
theorem dX11_look_42 : decode cX11_look 42 = .ok (.tableswitch 56 0 2 #[26, 36, 46], 26) := by decide +kernel
theorem dX11_look_68 : decode cX11_look 68 = .ok (.aload_n 0, 1) := by decide +kernel
theorem dX11_look_69 : decode cX11_look 69 = .ok (.getfield 45, 3) := by decide +kernel
theorem dX11_look_72 : decode cX11_look 72 = .ok (.getfield 231, 3) := by decide +kernel
theorem dX11_look_75 : decode cX11_look 75 = .ok (.iload_n 1, 1) := by decide +kernel
theorem dX11_look_76 : decode cX11_look 76 = .ok (.iaload, 1) := by decide +kernel
theorem dX11_look_77 : decode cX11_look 77 = .ok (.ireturn, 1) := by decide +kernel
theorem dX11_look_78 : decode cX11_look 78 = .ok (.aload_n 0, 1) := by decide +kernel
theorem dX11_look_79 : decode cX11_look 79 = .ok (.getfield 45, 3) := by decide +kernel
theorem dX11_look_82 : decode cX11_look 82 = .ok (.getfield 234, 3) := by decide +kernel
theorem dX11_look_85 : decode cX11_look 85 = .ok (.iload_n 1, 1) := by decide +kernel
theorem dX11_look_86 : decode cX11_look 86 = .ok (.iaload, 1) := by decide +kernel
theorem dX11_look_87 : decode cX11_look 87 = .ok (.ireturn, 1) := by decide +kernel
theorem dX11_look_88 : decode cX11_look 88 = .ok (.aload_n 0, 1) := by decide +kernel
theorem dX11_look_89 : decode cX11_look 89 = .ok (.getfield 45, 3) := by decide +kernel
theorem dX11_look_92 : decode cX11_look 92 = .ok (.getfield 237, 3) := by decide +kernel
theorem dX11_look_95 : decode cX11_look 95 = .ok (.iload_n 1, 1) := by decide +kernel
theorem dX11_look_96 : decode cX11_look 96 = .ok (.iaload, 1) := by decide +kernel
theorem dX11_look_97 : decode cX11_look 97 = .ok (.ireturn, 1) := by decide +kernel
theorem dX11_look_98 : decode cX11_look 98 = .ok (.aload_n 0, 1) := by decide +kernel
theorem dX11_look_99 : decode cX11_look 99 = .ok (.getfield 45, 3) := by decide +kernel
theorem dX11_look_102 : decode cX11_look 102 = .ok (.getfield 240, 3) := by decide +kernel
theorem dX11_look_105 : decode cX11_look 105 = .ok (.iload_n 2, 1) := by decide +kernel
theorem dX11_look_106 : decode cX11_look 106 = .ok (.iconst 3, 1) := by decide +kernel
theorem dX11_look_107 : decode cX11_look 107 = .ok (.isub, 1) := by decide +kernel
theorem dX11_look_108 : decode cX11_look 108 = .ok (.aaload, 1) := by decide +kernel
theorem dX11_look_109 : decode cX11_look 109 = .ok (.iload_n 1, 1) := by decide +kernel
theorem dX11_look_110 : decode cX11_look 110 = .ok (.iaload, 1) := by decide +kernel
theorem dX11_look_111 : decode cX11_look 111 = .ok (.ireturn, 1) := by decide +kernel
theorem dX11_like_0 : decode cX11_like 0 = .ok (.aload_n 0, 1) := by decide +kernel
theorem dX11_like_1 : decode cX11_like 1 = .ok (.getfield 45, 3) := by decide +kernel
theorem dX11_like_4 : decode cX11_like 4 = .ok (.iload_n 1, 1) := by decide +kernel
theorem dX11_like_5 : decode cX11_like 5 = .ok (.invokevirtual 142, 3) := by decide +kernel
theorem dX11_like_8 : decode cX11_like 8 = .ok (.ifCond .eq 26, 3) := by decide +kernel
theorem dX11_like_11 : decode cX11_like 11 = .ok (.aload_n 0, 1) := by decide +kernel
theorem dX11_like_12 : decode cX11_like 12 = .ok (.getfield 45, 3) := by decide +kernel
theorem dX11_like_15 : decode cX11_like 15 = .ok (.iload_n 2, 1) := by decide +kernel
theorem dX11_like_16 : decode cX11_like 16 = .ok (.invokevirtual 142, 3) := by decide +kernel
theorem dX11_like_19 : decode cX11_like 19 = .ok (.ifCond .eq 15, 3) := by decide +kernel
theorem dX11_like_22 : decode cX11_like 22 = .ok (.aload_n 0, 1) := by decide +kernel
theorem dX11_like_23 : decode cX11_like 23 = .ok (.getfield 45, 3) := by decide +kernel
theorem dX11_like_26 : decode cX11_like 26 = .ok (.iload_n 1, 1) := by decide +kernel
theorem dX11_like_27 : decode cX11_like 27 = .ok (.iload_n 2, 1) := by decide +kernel
theorem dX11_like_28 : decode cX11_like 28 = .ok (.invokevirtual 244, 3) := by decide +kernel
theorem dX11_like_31 : decode cX11_like 31 = .ok (.goto 4, 3) := by decide +kernel
theorem dX11_like_34 : decode cX11_like 34 = .ok (.iconst (-1), 1) := by decide +kernel
theorem dX11_like_35 : decode cX11_like 35 = .ok (.ireturn, 1) := by decide +kernel
theorem dX11_chance_0 : decode cX11_chance 0 = .ok (.aload_n 0, 1) := by decide +kernel
theorem dX11_chance_1 : decode cX11_chance 1 = .ok (.getfield 52, 3) := by decide +kernel
theorem dX11_chance_4 : decode cX11_chance 4 = .ok (.iload_n 1, 1) := by decide +kernel
theorem dX11_chance_5 : decode cX11_chance 5 = .ok (.invokevirtual 247, 3) := by decide +kernel
theorem dX11_chance_8 : decode cX11_chance 8 = .ok (.ifCond .eq 25, 3) := by decide +kernel
theorem dX11_chance_11 : decode cX11_chance 11 = .ok (.aload_n 0, 1) := by decide +kernel
theorem dX11_chance_12 : decode cX11_chance 12 = .ok (.getfield 45, 3) := by decide +kernel
theorem dX11_chance_15 : decode cX11_chance 15 = .ok (.iload_n 2, 1) := by decide +kernel
theorem dX11_chance_16 : decode cX11_chance 16 = .ok (.invokevirtual 142, 3) := by decide +kernel
theorem dX11_chance_19 : decode cX11_chance 19 = .ok (.ifCond .eq 14, 3) := by decide +kernel
theorem dX11_chance_22 : decode cX11_chance 22 = .ok (.iload 4, 2) := by decide +kernel
theorem dX11_chance_24 : decode cX11_chance 24 = .ok (.ifCond .lt 9, 3) := by decide +kernel
theorem dX11_chance_27 : decode cX11_chance 27 = .ok (.iload 4, 2) := by decide +kernel
theorem dX11_chance_29 : decode cX11_chance 29 = .ok (.iconst 4, 1) := by decide +kernel
theorem dX11_chance_30 : decode cX11_chance 30 = .ok (.if_icmp .le 7, 3) := by decide +kernel
theorem dX11_chance_33 : decode cX11_chance 33 = .ok (.iconst 1, 1) := by decide +kernel
theorem dX11_chance_34 : decode cX11_chance 34 = .ok (.goto 4, 3) := by decide +kernel
theorem dX11_chance_37 : decode cX11_chance 37 = .ok (.iconst 0, 1) := by decide +kernel
theorem dX11_chance_38 : decode cX11_chance 38 = .ok (.istore 5, 2) := by decide +kernel
theorem dX11_chance_40 : decode cX11_chance 40 = .ok (.iload 5, 2) := by decide +kernel
theorem dX11_chance_42 : decode cX11_chance 42 = .ok (.ifCond .ne 27, 3) := by decide +kernel
theorem dX11_chance_45 : decode cX11_chance 45 = .ok (.aload_n 0, 1) := by decide +kernel
theorem dX11_chance_46 : decode cX11_chance 46 = .ok (.getfield 34, 3) := by decide +kernel
theorem dX11_chance_49 : decode cX11_chance 49 = .ok (.getfield 125, 3) := by decide +kernel
theorem dX11_chance_52 : decode cX11_chance 52 = .ok (.ifCond .eq 17, 3) := by decide +kernel
theorem dX11_chance_55 : decode cX11_chance 55 = .ok (.iload 4, 2) := by decide +kernel
theorem dX11_chance_57 : decode cX11_chance 57 = .ok (.iconst 2, 1) := by decide +kernel
theorem dX11_chance_58 : decode cX11_chance 58 = .ok (.if_icmp .ge 13, 3) := by decide +kernel
theorem dX11_chance_61 : decode cX11_chance 61 = .ok (.aload_n 0, 1) := by decide +kernel
theorem dX11_chance_62 : decode cX11_chance 62 = .ok (.iload_n 3, 1) := by decide +kernel
theorem dX11_chance_63 : decode cX11_chance 63 = .ok (.invokevirtual 193, 3) := by decide +kernel
theorem dX11_chance_66 : decode cX11_chance 66 = .ok (.ifCond .ne 5, 3) := by decide +kernel
theorem dX11_chance_69 : decode cX11_chance 69 = .ok (.iconst (-1), 1) := by decide +kernel
theorem dX11_chance_70 : decode cX11_chance 70 = .ok (.ireturn, 1) := by decide +kernel
theorem dX11_chance_71 : decode cX11_chance 71 = .ok (.aload_n 0, 1) := by decide +kernel
theorem dX11_chance_72 : decode cX11_chance 72 = .ok (.getfield 52, 3) := by decide +kernel
theorem dX11_chance_75 : decode cX11_chance 75 = .ok (.iload_n 1, 1) := by decide +kernel
theorem dX11_chance_76 : decode cX11_chance 76 = .ok (.invokevirtual 250, 3) := by decide +kernel
theorem dX11_chance_79 : decode cX11_chance 79 = .ok (.aload_n 0, 1) := by decide +kernel
theorem dX11_chance_80 : decode cX11_chance 80 = .ok (.getfield 61, 3) := by decide +kernel
theorem dX11_chance_83 : decode cX11_chance 83 = .ok (.iload_n 2, 1) := by decide +kernel
theorem dX11_chance_84 : decode cX11_chance 84 = .ok (.iconst (-1), 1) := by decide +kernel
theorem dX11_chance_85 : decode cX11_chance 85 = .ok (.invokevirtual 253, 3) := by decide +kernel
theorem dX11_chance_88 : decode cX11_chance 88 = .ok (.iload 4, 2) := by decide +kernel
theorem dX11_chance_90 : decode cX11_chance 90 = .ok (.tableswitch 65 0 3 #[30, 40, 49, 57], 30) := by decide +kernel
theorem dX11_chance_120 : decode cX11_chance 120 = .ok (.aload_n 0, 1) := by decide +kernel
theorem dX11_chance_121 : decode cX11_chance 121 = .ok (.getfield 61, 3) := by decide +kernel
theorem dX11_chance_124 : decode cX11_chance 124 = .ok (.getfield 256, 3) := by decide +kernel
theorem dX11_chance_127 : decode cX11_chance 127 = .ok (.iload_n 3, 1) := by decide +kernel
theorem dX11_chance_128 : decode cX11_chance 128 = .ok (.iaload, 1) := by decide +kernel
theorem dX11_chance_129 : decode cX11_chance 129 = .ok (.ireturn, 1) := by decide +kernel
theorem dX11_chance_130 : decode cX11_chance 130 = .ok (.aload_n 0, 1) := by decide +kernel
theorem dX11_chance_131 : decode cX11_chance 131 = .ok (.getfield 61, 3) := by decide +kernel
theorem dX11_chance_134 : decode cX11_chance 134 = .ok (.iload_n 3, 1) := by decide +kernel
theorem dX11_chance_135 : decode cX11_chance 135 = .ok (.invokevirtual 259, 3) := by decide +kernel
theorem dX11_chance_138 : decode cX11_chance 138 = .ok (.ireturn, 1) := by decide +kernel
theorem dX11_chance_139 : decode cX11_chance 139 = .ok (.aload_n 0, 1) := by decide +kernel
theorem dX11_chance_140 : decode cX11_chance 140 = .ok (.getfield 61, 3) := by decide +kernel
theorem dX11_chance_143 : decode cX11_chance 143 = .ok (.getfield 263, 3) := by decide +kernel
theorem dX11_chance_146 : decode cX11_chance 146 = .ok (.ireturn, 1) := by decide +kernel
theorem dX11_chance_147 : decode cX11_chance 147 = .ok (.aload_n 0, 1) := by decide +kernel
theorem dX11_chance_148 : decode cX11_chance 148 = .ok (.getfield 61, 3) := by decide +kernel
theorem dX11_chance_151 : decode cX11_chance 151 = .ok (.invokevirtual 266, 3) := by decide +kernel
theorem dX11_chance_154 : decode cX11_chance 154 = .ok (.ireturn, 1) := by decide +kernel
theorem dX11_chance_155 : decode cX11_chance 155 = .ok (.aload_n 0, 1) := by decide +kernel
theorem dX11_chance_156 : decode cX11_chance 156 = .ok (.getfield 61, 3) := by decide +kernel
theorem dX11_chance_159 : decode cX11_chance 159 = .ok (.getfield 270, 3) := by decide +kernel
theorem dX11_chance_162 : decode cX11_chance 162 = .ok (.ireturn, 1) := by decide +kernel
theorem dX11_leftOut_0 : decode cX11_leftOut 0 = .ok (.aload_n 0, 1) := by decide +kernel
theorem dX11_leftOut_1 : decode cX11_leftOut 1 = .ok (.getfield 52, 3) := by decide +kernel
theorem dX11_leftOut_4 : decode cX11_leftOut 4 = .ok (.iload_n 1, 1) := by decide +kernel
theorem dX11_leftOut_5 : decode cX11_leftOut 5 = .ok (.invokevirtual 247, 3) := by decide +kernel
theorem dX11_leftOut_8 : decode cX11_leftOut 8 = .ok (.ifCond .eq 12, 3) := by decide +kernel
theorem dX11_leftOut_11 : decode cX11_leftOut 11 = .ok (.iload_n 2, 1) := by decide +kernel
theorem dX11_leftOut_12 : decode cX11_leftOut 12 = .ok (.ifCond .lt 8, 3) := by decide +kernel
theorem dX11_leftOut_15 : decode cX11_leftOut 15 = .ok (.iload_n 2, 1) := by decide +kernel
theorem dX11_leftOut_16 : decode cX11_leftOut 16 = .ok (.iconst 2, 1) := by decide +kernel
theorem dX11_leftOut_17 : decode cX11_leftOut 17 = .ok (.if_icmp .le 5, 3) := by decide +kernel
theorem dX11_leftOut_20 : decode cX11_leftOut 20 = .ok (.iconst (-1), 1) := by decide +kernel
theorem dX11_leftOut_21 : decode cX11_leftOut 21 = .ok (.ireturn, 1) := by decide +kernel
theorem dX11_leftOut_22 : decode cX11_leftOut 22 = .ok (.aload_n 0, 1) := by decide +kernel
theorem dX11_leftOut_23 : decode cX11_leftOut 23 = .ok (.getfield 52, 3) := by decide +kernel
theorem dX11_leftOut_26 : decode cX11_leftOut 26 = .ok (.iload_n 1, 1) := by decide +kernel
theorem dX11_leftOut_27 : decode cX11_leftOut 27 = .ok (.invokevirtual 250, 3) := by decide +kernel
theorem dX11_leftOut_30 : decode cX11_leftOut 30 = .ok (.iload_n 2, 1) := by decide +kernel
theorem dX11_leftOut_31 : decode cX11_leftOut 31 = .ok (.ifCond .ne 13, 3) := by decide +kernel
theorem dX11_leftOut_34 : decode cX11_leftOut 34 = .ok (.aload_n 0, 1) := by decide +kernel
theorem dX11_leftOut_35 : decode cX11_leftOut 35 = .ok (.getfield 52, 3) := by decide +kernel
theorem dX11_leftOut_38 : decode cX11_leftOut 38 = .ok (.getfield 273, 3) := by decide +kernel
theorem dX11_leftOut_41 : decode cX11_leftOut 41 = .ok (.goto 19, 3) := by decide +kernel
theorem dX11_leftOut_44 : decode cX11_leftOut 44 = .ok (.iload_n 2, 1) := by decide +kernel
theorem dX11_leftOut_45 : decode cX11_leftOut 45 = .ok (.iconst 1, 1) := by decide +kernel
theorem dX11_leftOut_46 : decode cX11_leftOut 46 = .ok (.if_icmp .ne 10, 3) := by decide +kernel
theorem dX11_leftOut_49 : decode cX11_leftOut 49 = .ok (.aload_n 0, 1) := by decide +kernel
theorem dX11_leftOut_50 : decode cX11_leftOut 50 = .ok (.invokevirtual 276, 3) := by decide +kernel
theorem dX11_leftOut_53 : decode cX11_leftOut 53 = .ok (.goto 7, 3) := by decide +kernel
theorem dX11_leftOut_56 : decode cX11_leftOut 56 = .ok (.aload_n 0, 1) := by decide +kernel
theorem dX11_leftOut_57 : decode cX11_leftOut 57 = .ok (.invokevirtual 279, 3) := by decide +kernel
theorem dX11_leftOut_60 : decode cX11_leftOut 60 = .ok (.ireturn, 1) := by decide +kernel
theorem dX11_draw_0 : decode cX11_draw 0 = .ok (.iload_n 2, 1) := by decide +kernel
theorem dX11_draw_1 : decode cX11_draw 1 = .ok (.ifCond .eq 13, 3) := by decide +kernel
theorem dX11_draw_4 : decode cX11_draw 4 = .ok (.aload_n 0, 1) := by decide +kernel
theorem dX11_draw_5 : decode cX11_draw 5 = .ok (.getfield 45, 3) := by decide +kernel
theorem dX11_draw_8 : decode cX11_draw 8 = .ok (.getfield 282, 3) := by decide +kernel
theorem dX11_draw_11 : decode cX11_draw 11 = .ok (.goto 10, 3) := by decide +kernel
theorem dX11_draw_14 : decode cX11_draw 14 = .ok (.aload_n 0, 1) := by decide +kernel
theorem dX11_draw_15 : decode cX11_draw 15 = .ok (.getfield 45, 3) := by decide +kernel
theorem dX11_draw_18 : decode cX11_draw 18 = .ok (.getfield 285, 3) := by decide +kernel
theorem dX11_draw_21 : decode cX11_draw 21 = .ok (.istore 4, 2) := by decide +kernel
theorem dX11_draw_23 : decode cX11_draw 23 = .ok (.aload_n 0, 1) := by decide +kernel
theorem dX11_draw_24 : decode cX11_draw 24 = .ok (.getfield 52, 3) := by decide +kernel
theorem dX11_draw_27 : decode cX11_draw 27 = .ok (.iload_n 1, 1) := by decide +kernel
theorem dX11_draw_28 : decode cX11_draw 28 = .ok (.invokevirtual 247, 3) := by decide +kernel
theorem dX11_draw_31 : decode cX11_draw 31 = .ok (.ifCond .eq 23, 3) := by decide +kernel
theorem dX11_draw_34 : decode cX11_draw 34 = .ok (.iload_n 3, 1) := by decide +kernel
theorem dX11_draw_35 : decode cX11_draw 35 = .ok (.ifCond .lt 19, 3) := by decide +kernel
theorem dX11_draw_38 : decode cX11_draw 38 = .ok (.iload_n 3, 1) := by decide +kernel
theorem dX11_draw_39 : decode cX11_draw 39 = .ok (.iload 4, 2) := by decide +kernel
theorem dX11_draw_41 : decode cX11_draw 41 = .ok (.if_icmp .ge 13, 3) := by decide +kernel
theorem dX11_draw_44 : decode cX11_draw 44 = .ok (.aload_n 0, 1) := by decide +kernel
theorem dX11_draw_45 : decode cX11_draw 45 = .ok (.getfield 34, 3) := by decide +kernel
theorem dX11_draw_48 : decode cX11_draw 48 = .ok (.getfield 125, 3) := by decide +kernel
theorem dX11_draw_51 : decode cX11_draw 51 = .ok (.ifCond .ne 5, 3) := by decide +kernel
theorem dX11_draw_54 : decode cX11_draw 54 = .ok (.iconst (-1), 1) := by decide +kernel
theorem dX11_draw_55 : decode cX11_draw 55 = .ok (.ireturn, 1) := by decide +kernel
theorem dX11_draw_56 : decode cX11_draw 56 = .ok (.aload_n 0, 1) := by decide +kernel
theorem dX11_draw_57 : decode cX11_draw 57 = .ok (.getfield 52, 3) := by decide +kernel
theorem dX11_draw_60 : decode cX11_draw 60 = .ok (.iload_n 1, 1) := by decide +kernel
theorem dX11_draw_61 : decode cX11_draw 61 = .ok (.invokevirtual 250, 3) := by decide +kernel
theorem dX11_draw_64 : decode cX11_draw 64 = .ok (.aload_n 0, 1) := by decide +kernel
theorem dX11_draw_65 : decode cX11_draw 65 = .ok (.getfield 70, 3) := by decide +kernel
theorem dX11_draw_68 : decode cX11_draw 68 = .ok (.iload_n 2, 1) := by decide +kernel
theorem dX11_draw_69 : decode cX11_draw 69 = .ok (.iload_n 3, 1) := by decide +kernel
theorem dX11_draw_70 : decode cX11_draw 70 = .ok (.invokevirtual 288, 3) := by decide +kernel
theorem dX11_draw_73 : decode cX11_draw 73 = .ok (.ireturn, 1) := by decide +kernel
theorem dX11_drawn_0 : decode cX11_drawn 0 = .ok (.iload_n 1, 1) := by decide +kernel
theorem dX11_drawn_1 : decode cX11_drawn 1 = .ok (.ifCond .lt 14, 3) := by decide +kernel
theorem dX11_drawn_4 : decode cX11_drawn 4 = .ok (.iload_n 1, 1) := by decide +kernel
theorem dX11_drawn_5 : decode cX11_drawn 5 = .ok (.aload_n 0, 1) := by decide +kernel
theorem dX11_drawn_6 : decode cX11_drawn 6 = .ok (.getfield 70, 3) := by decide +kernel
theorem dX11_drawn_9 : decode cX11_drawn 9 = .ok (.getfield 292, 3) := by decide +kernel
theorem dX11_drawn_12 : decode cX11_drawn 12 = .ok (.if_icmp .lt 7, 3) := by decide +kernel
theorem dX11_drawn_15 : decode cX11_drawn 15 = .ok (.iconst (-1), 1) := by decide +kernel
theorem dX11_drawn_16 : decode cX11_drawn 16 = .ok (.goto 12, 3) := by decide +kernel
theorem dX11_drawn_19 : decode cX11_drawn 19 = .ok (.aload_n 0, 1) := by decide +kernel
theorem dX11_drawn_20 : decode cX11_drawn 20 = .ok (.getfield 70, 3) := by decide +kernel
theorem dX11_drawn_23 : decode cX11_drawn 23 = .ok (.getfield 293, 3) := by decide +kernel
theorem dX11_drawn_26 : decode cX11_drawn 26 = .ok (.iload_n 1, 1) := by decide +kernel
theorem dX11_drawn_27 : decode cX11_drawn 27 = .ok (.iaload, 1) := by decide +kernel
theorem dX11_drawn_28 : decode cX11_drawn 28 = .ok (.ireturn, 1) := by decide +kernel
theorem dX11_plan_0 : decode cX11_plan 0 = .ok (.iload_n 1, 1) := by decide +kernel
theorem dX11_plan_1 : decode cX11_plan 1 = .ok (.iconst 1, 1) := by decide +kernel
theorem dX11_plan_2 : decode cX11_plan 2 = .ok (.if_icmp .lt 19, 3) := by decide +kernel
theorem dX11_plan_5 : decode cX11_plan 5 = .ok (.iload_n 1, 1) := by decide +kernel
theorem dX11_plan_6 : decode cX11_plan 6 = .ok (.iconst 3, 1) := by decide +kernel
theorem dX11_plan_7 : decode cX11_plan 7 = .ok (.if_icmp .gt 14, 3) := by decide +kernel
theorem dX11_plan_10 : decode cX11_plan 10 = .ok (.iload_n 2, 1) := by decide +kernel
theorem dX11_plan_11 : decode cX11_plan 11 = .ok (.iconst 1, 1) := by decide +kernel
theorem dX11_plan_12 : decode cX11_plan 12 = .ok (.if_icmp .lt 9, 3) := by decide +kernel
theorem dX11_plan_15 : decode cX11_plan 15 = .ok (.iload_n 2, 1) := by decide +kernel
theorem dX11_plan_16 : decode cX11_plan 16 = .ok (.bipush 60, 2) := by decide +kernel
theorem dX11_plan_18 : decode cX11_plan 18 = .ok (.if_icmp .le 7, 3) := by decide +kernel
theorem dX11_plan_21 : decode cX11_plan 21 = .ok (.iconst 1, 1) := by decide +kernel
theorem dX11_plan_22 : decode cX11_plan 22 = .ok (.goto 4, 3) := by decide +kernel
theorem dX11_plan_25 : decode cX11_plan 25 = .ok (.iconst 0, 1) := by decide +kernel
theorem dX11_plan_26 : decode cX11_plan 26 = .ok (.istore 4, 2) := by decide +kernel
theorem dX11_plan_28 : decode cX11_plan 28 = .ok (.iload 4, 2) := by decide +kernel
theorem dX11_plan_30 : decode cX11_plan 30 = .ok (.ifCond .ne 24, 3) := by decide +kernel
theorem dX11_plan_33 : decode cX11_plan 33 = .ok (.aload_n 0, 1) := by decide +kernel
theorem dX11_plan_34 : decode cX11_plan 34 = .ok (.getfield 45, 3) := by decide +kernel
theorem dX11_plan_37 : decode cX11_plan 37 = .ok (.iload_n 3, 1) := by decide +kernel
theorem dX11_plan_38 : decode cX11_plan 38 = .ok (.invokevirtual 142, 3) := by decide +kernel
theorem dX11_plan_41 : decode cX11_plan 41 = .ok (.ifCond .eq 13, 3) := by decide +kernel
theorem dX11_plan_44 : decode cX11_plan 44 = .ok (.aload_n 0, 1) := by decide +kernel
theorem dX11_plan_45 : decode cX11_plan 45 = .ok (.getfield 34, 3) := by decide +kernel
theorem dX11_plan_48 : decode cX11_plan 48 = .ok (.getfield 125, 3) := by decide +kernel
theorem dX11_plan_51 : decode cX11_plan 51 = .ok (.ifCond .ne 5, 3) := by decide +kernel
theorem dX11_plan_54 : decode cX11_plan 54 = .ok (.iconst (-1), 1) := by decide +kernel
theorem dX11_plan_55 : decode cX11_plan 55 = .ok (.ireturn, 1) := by decide +kernel
theorem dX11_plan_56 : decode cX11_plan 56 = .ok (.aload_n 0, 1) := by decide +kernel
theorem dX11_plan_57 : decode cX11_plan 57 = .ok (.getfield 52, 3) := by decide +kernel
theorem dX11_plan_60 : decode cX11_plan 60 = .ok (.aload_n 0, 1) := by decide +kernel
theorem dX11_plan_61 : decode cX11_plan 61 = .ok (.getfield 52, 3) := by decide +kernel
theorem dX11_plan_64 : decode cX11_plan 64 = .ok (.getfield 145, 3) := by decide +kernel
theorem dX11_plan_67 : decode cX11_plan 67 = .ok (.invokevirtual 250, 3) := by decide +kernel
theorem dX11_plan_70 : decode cX11_plan 70 = .ok (.aload_n 0, 1) := by decide +kernel
theorem dX11_plan_71 : decode cX11_plan 71 = .ok (.getfield 79, 3) := by decide +kernel
theorem dX11_plan_74 : decode cX11_plan 74 = .ok (.aload_n 0, 1) := by decide +kernel
theorem dX11_plan_75 : decode cX11_plan 75 = .ok (.getfield 61, 3) := by decide +kernel
theorem dX11_plan_78 : decode cX11_plan 78 = .ok (.aload_n 0, 1) := by decide +kernel
theorem dX11_plan_79 : decode cX11_plan 79 = .ok (.getfield 52, 3) := by decide +kernel
theorem dX11_plan_82 : decode cX11_plan 82 = .ok (.invokevirtual 295, 3) := by decide +kernel
theorem dX11_plan_85 : decode cX11_plan 85 = .ok (.aload_n 0, 1) := by decide +kernel
theorem dX11_plan_86 : decode cX11_plan 86 = .ok (.getfield 79, 3) := by decide +kernel
theorem dX11_plan_89 : decode cX11_plan 89 = .ok (.iload_n 1, 1) := by decide +kernel
theorem dX11_plan_90 : decode cX11_plan 90 = .ok (.iload_n 2, 1) := by decide +kernel
theorem dX11_plan_91 : decode cX11_plan 91 = .ok (.iload_n 3, 1) := by decide +kernel
theorem dX11_plan_92 : decode cX11_plan 92 = .ok (.invokevirtual 299, 3) := by decide +kernel
theorem dX11_plan_95 : decode cX11_plan 95 = .ok (.ireturn, 1) := by decide +kernel
theorem dX11_planned_0 : decode cX11_planned 0 = .ok (.iload_n 1, 1) := by decide +kernel
theorem dX11_planned_1 : decode cX11_planned 1 = .ok (.iconst 1, 1) := by decide +kernel
theorem dX11_planned_2 : decode cX11_planned 2 = .ok (.if_icmp .ne 11, 3) := by decide +kernel
theorem dX11_planned_5 : decode cX11_planned 5 = .ok (.aload_n 0, 1) := by decide +kernel
theorem dX11_planned_6 : decode cX11_planned 6 = .ok (.getfield 79, 3) := by decide +kernel
theorem dX11_planned_9 : decode cX11_planned 9 = .ok (.getfield 303, 3) := by decide +kernel
theorem dX11_planned_12 : decode cX11_planned 12 = .ok (.ireturn, 1) := by decide +kernel
theorem dX11_planned_13 : decode cX11_planned 13 = .ok (.iload_n 1, 1) := by decide +kernel
theorem dX11_planned_14 : decode cX11_planned 14 = .ok (.ifCond .ne 18, 3) := by decide +kernel
theorem dX11_planned_17 : decode cX11_planned 17 = .ok (.iload_n 2, 1) := by decide +kernel
theorem dX11_planned_18 : decode cX11_planned 18 = .ok (.ifCond .lt 14, 3) := by decide +kernel
theorem dX11_planned_21 : decode cX11_planned 21 = .ok (.iload_n 2, 1) := by decide +kernel
theorem dX11_planned_22 : decode cX11_planned 22 = .ok (.aload_n 0, 1) := by decide +kernel
theorem dX11_planned_23 : decode cX11_planned 23 = .ok (.getfield 79, 3) := by decide +kernel
theorem dX11_planned_26 : decode cX11_planned 26 = .ok (.getfield 306, 3) := by decide +kernel
theorem dX11_planned_29 : decode cX11_planned 29 = .ok (.if_icmp .lt 7, 3) := by decide +kernel
theorem dX11_planned_32 : decode cX11_planned 32 = .ok (.iconst (-1), 1) := by decide +kernel
theorem dX11_planned_33 : decode cX11_planned 33 = .ok (.goto 12, 3) := by decide +kernel
theorem dX11_planned_36 : decode cX11_planned 36 = .ok (.aload_n 0, 1) := by decide +kernel
theorem dX11_planned_37 : decode cX11_planned 37 = .ok (.getfield 79, 3) := by decide +kernel
theorem dX11_planned_40 : decode cX11_planned 40 = .ok (.getfield 307, 3) := by decide +kernel
theorem dX11_planned_43 : decode cX11_planned 43 = .ok (.iload_n 2, 1) := by decide +kernel
theorem dX11_planned_44 : decode cX11_planned 44 = .ok (.iaload, 1) := by decide +kernel
theorem dX11_planned_45 : decode cX11_planned 45 = .ok (.ireturn, 1) := by decide +kernel
theorem dX11_turned_0 : decode cX11_turned 0 = .ok (.iload_n 1, 1) := by decide +kernel
theorem dX11_turned_1 : decode cX11_turned 1 = .ok (.ifCond .lt 19, 3) := by decide +kernel
theorem dX11_turned_4 : decode cX11_turned 4 = .ok (.iload_n 1, 1) := by decide +kernel
theorem dX11_turned_5 : decode cX11_turned 5 = .ok (.bipush 6, 2) := by decide +kernel
theorem dX11_turned_7 : decode cX11_turned 7 = .ok (.if_icmp .ge 13, 3) := by decide +kernel
theorem dX11_turned_10 : decode cX11_turned 10 = .ok (.iload_n 2, 1) := by decide +kernel
theorem dX11_turned_11 : decode cX11_turned 11 = .ok (.ifCond .lt 9, 3) := by decide +kernel
theorem dX11_turned_14 : decode cX11_turned 14 = .ok (.iload_n 2, 1) := by decide +kernel
theorem dX11_turned_15 : decode cX11_turned 15 = .ok (.bipush 8, 2) := by decide +kernel
theorem dX11_turned_17 : decode cX11_turned 17 = .ok (.if_icmp .le 6, 3) := by decide +kernel
theorem dX11_turned_20 : decode cX11_turned 20 = .ok (.bipush (-2), 2) := by decide +kernel
theorem dX11_turned_22 : decode cX11_turned 22 = .ok (.ireturn, 1) := by decide +kernel
theorem dX11_turned_23 : decode cX11_turned 23 = .ok (.aload_n 0, 1) := by decide +kernel
theorem dX11_turned_24 : decode cX11_turned 24 = .ok (.getfield 52, 3) := by decide +kernel
theorem dX11_turned_27 : decode cX11_turned 27 = .ok (.aload_n 0, 1) := by decide +kernel
theorem dX11_turned_28 : decode cX11_turned 28 = .ok (.getfield 52, 3) := by decide +kernel
theorem dX11_turned_31 : decode cX11_turned 31 = .ok (.getfield 145, 3) := by decide +kernel
theorem dX11_turned_34 : decode cX11_turned 34 = .ok (.invokevirtual 250, 3) := by decide +kernel
theorem dX11_turned_37 : decode cX11_turned 37 = .ok (.aload_n 0, 1) := by decide +kernel
theorem dX11_turned_38 : decode cX11_turned 38 = .ok (.getfield 88, 3) := by decide +kernel
theorem dX11_turned_41 : decode cX11_turned 41 = .ok (.invokevirtual 310, 3) := by decide +kernel
theorem dX11_turned_44 : decode cX11_turned 44 = .ok (.iload_n 2, 1) := by decide +kernel
theorem dX11_turned_45 : decode cX11_turned 45 = .ok (.bipush 8, 2) := by decide +kernel
theorem dX11_turned_47 : decode cX11_turned 47 = .ok (.if_icmp .ne 15, 3) := by decide +kernel
theorem dX11_turned_50 : decode cX11_turned 50 = .ok (.aload_n 0, 1) := by decide +kernel
theorem dX11_turned_51 : decode cX11_turned 51 = .ok (.getfield 88, 3) := by decide +kernel
theorem dX11_turned_54 : decode cX11_turned 54 = .ok (.getfield 313, 3) := by decide +kernel
theorem dX11_turned_57 : decode cX11_turned 57 = .ok (.iload_n 1, 1) := by decide +kernel
theorem dX11_turned_58 : decode cX11_turned 58 = .ok (.iaload, 1) := by decide +kernel
theorem dX11_turned_59 : decode cX11_turned 59 = .ok (.goto 14, 3) := by decide +kernel
theorem dX11_turned_62 : decode cX11_turned 62 = .ok (.aload_n 0, 1) := by decide +kernel
theorem dX11_turned_63 : decode cX11_turned 63 = .ok (.getfield 88, 3) := by decide +kernel
theorem dX11_turned_66 : decode cX11_turned 66 = .ok (.getfield 316, 3) := by decide +kernel
theorem dX11_turned_69 : decode cX11_turned 69 = .ok (.iload_n 1, 1) := by decide +kernel
theorem dX11_turned_70 : decode cX11_turned 70 = .ok (.aaload, 1) := by decide +kernel
theorem dX11_turned_71 : decode cX11_turned 71 = .ok (.iload_n 2, 1) := by decide +kernel
theorem dX11_turned_72 : decode cX11_turned 72 = .ok (.iaload, 1) := by decide +kernel
theorem dX11_turned_73 : decode cX11_turned 73 = .ok (.ireturn, 1) := by decide +kernel
theorem dX11_maps_0 : decode cX11_maps 0 = .ok (.iload_n 1, 1) := by decide +kernel
theorem dX11_maps_1 : decode cX11_maps 1 = .ok (.ifCond .lt 29, 3) := by decide +kernel
theorem dX11_maps_4 : decode cX11_maps 4 = .ok (.iload_n 1, 1) := by decide +kernel
theorem dX11_maps_5 : decode cX11_maps 5 = .ok (.iconst 2, 1) := by decide +kernel
theorem dX11_maps_6 : decode cX11_maps 6 = .ok (.if_icmp .gt 24, 3) := by decide +kernel
theorem dX11_maps_9 : decode cX11_maps 9 = .ok (.iload_n 1, 1) := by decide +kernel
theorem dX11_maps_10 : decode cX11_maps 10 = .ok (.ifCond .le 22, 3) := by decide +kernel
theorem dX11_maps_13 : decode cX11_maps 13 = .ok (.iload_n 2, 1) := by decide +kernel
theorem dX11_maps_14 : decode cX11_maps 14 = .ok (.ifCond .lt 16, 3) := by decide +kernel
theorem dX11_maps_17 : decode cX11_maps 17 = .ok (.iload_n 2, 1) := by decide +kernel
theorem dX11_maps_18 : decode cX11_maps 18 = .ok (.aload_n 0, 1) := by decide +kernel
theorem dX11_maps_19 : decode cX11_maps 19 = .ok (.getfield 45, 3) := by decide +kernel
theorem dX11_maps_22 : decode cX11_maps 22 = .ok (.getfield 282, 3) := by decide +kernel
theorem dX11_maps_25 : decode cX11_maps 25 = .ok (.iconst 1, 1) := by decide +kernel
theorem dX11_maps_26 : decode cX11_maps 26 = .ok (.isub, 1) := by decide +kernel
theorem dX11_maps_27 : decode cX11_maps 27 = .ok (.if_icmp .lt 5, 3) := by decide +kernel
theorem dX11_maps_30 : decode cX11_maps 30 = .ok (.iconst (-1), 1) := by decide +kernel
theorem dX11_maps_31 : decode cX11_maps 31 = .ok (.ireturn, 1) := by decide +kernel
theorem dX11_maps_32 : decode cX11_maps 32 = .ok (.aload_n 0, 1) := by decide +kernel
theorem dX11_maps_33 : decode cX11_maps 33 = .ok (.getfield 34, 3) := by decide +kernel
theorem dX11_maps_36 : decode cX11_maps 36 = .ok (.getfield 125, 3) := by decide +kernel
theorem dX11_maps_39 : decode cX11_maps 39 = .ok (.ifCond .ne 5, 3) := by decide +kernel
theorem dX11_maps_42 : decode cX11_maps 42 = .ok (.iconst 0, 1) := by decide +kernel
theorem dX11_maps_43 : decode cX11_maps 43 = .ok (.ireturn, 1) := by decide +kernel
theorem dX11_maps_44 : decode cX11_maps 44 = .ok (.aload_n 0, 1) := by decide +kernel
theorem dX11_maps_45 : decode cX11_maps 45 = .ok (.getfield 52, 3) := by decide +kernel
theorem dX11_maps_48 : decode cX11_maps 48 = .ok (.aload_n 0, 1) := by decide +kernel
theorem dX11_maps_49 : decode cX11_maps 49 = .ok (.getfield 52, 3) := by decide +kernel
theorem dX11_maps_52 : decode cX11_maps 52 = .ok (.getfield 145, 3) := by decide +kernel
theorem dX11_maps_55 : decode cX11_maps 55 = .ok (.invokevirtual 250, 3) := by decide +kernel
theorem dX11_maps_58 : decode cX11_maps 58 = .ok (.aload_n 0, 1) := by decide +kernel
theorem dX11_maps_59 : decode cX11_maps 59 = .ok (.getfield 88, 3) := by decide +kernel
theorem dX11_maps_62 : decode cX11_maps 62 = .ok (.invokevirtual 310, 3) := by decide +kernel
theorem dX11_maps_65 : decode cX11_maps 65 = .ok (.iload_n 1, 1) := by decide +kernel
theorem dX11_maps_66 : decode cX11_maps 66 = .ok (.ifCond .ne 13, 3) := by decide +kernel
theorem dX11_maps_69 : decode cX11_maps 69 = .ok (.aload_n 0, 1) := by decide +kernel
theorem dX11_maps_70 : decode cX11_maps 70 = .ok (.getfield 88, 3) := by decide +kernel
theorem dX11_maps_73 : decode cX11_maps 73 = .ok (.invokevirtual 319, 3) := by decide +kernel
theorem dX11_maps_76 : decode cX11_maps 76 = .ok (.goto 27, 3) := by decide +kernel
theorem dX11_maps_79 : decode cX11_maps 79 = .ok (.iload_n 1, 1) := by decide +kernel
theorem dX11_maps_80 : decode cX11_maps 80 = .ok (.iconst 1, 1) := by decide +kernel
theorem dX11_maps_81 : decode cX11_maps 81 = .ok (.if_icmp .ne 14, 3) := by decide +kernel
theorem dX11_maps_84 : decode cX11_maps 84 = .ok (.aload_n 0, 1) := by decide +kernel
theorem dX11_maps_85 : decode cX11_maps 85 = .ok (.getfield 88, 3) := by decide +kernel
theorem dX11_maps_88 : decode cX11_maps 88 = .ok (.iload_n 2, 1) := by decide +kernel
theorem dX11_maps_89 : decode cX11_maps 89 = .ok (.invokevirtual 322, 3) := by decide +kernel
theorem dX11_maps_92 : decode cX11_maps 92 = .ok (.goto 11, 3) := by decide +kernel
theorem dX11_maps_95 : decode cX11_maps 95 = .ok (.aload_n 0, 1) := by decide +kernel
theorem dX11_maps_96 : decode cX11_maps 96 = .ok (.getfield 88, 3) := by decide +kernel
theorem dX11_maps_99 : decode cX11_maps 99 = .ok (.iload_n 2, 1) := by decide +kernel
theorem dX11_maps_100 : decode cX11_maps 100 = .ok (.invokevirtual 325, 3) := by decide +kernel
theorem dX11_maps_103 : decode cX11_maps 103 = .ok (.ireturn, 1) := by decide +kernel
theorem dX11_worth_0 : decode cX11_worth 0 = .ok (.iload_n 1, 1) := by decide +kernel
theorem dX11_worth_1 : decode cX11_worth 1 = .ok (.ifCond .lt 34, 3) := by decide +kernel
theorem dX11_worth_4 : decode cX11_worth 4 = .ok (.iload_n 1, 1) := by decide +kernel
theorem dX11_worth_5 : decode cX11_worth 5 = .ok (.iconst 2, 1) := by decide +kernel
theorem dX11_worth_6 : decode cX11_worth 6 = .ok (.if_icmp .gt 29, 3) := by decide +kernel
theorem dX11_worth_9 : decode cX11_worth 9 = .ok (.iload_n 1, 1) := by decide +kernel
theorem dX11_worth_10 : decode cX11_worth 10 = .ok (.iconst 2, 1) := by decide +kernel
theorem dX11_worth_11 : decode cX11_worth 11 = .ok (.if_icmp .ne 14, 3) := by decide +kernel
theorem dX11_worth_14 : decode cX11_worth 14 = .ok (.iload_n 2, 1) := by decide +kernel
theorem dX11_worth_15 : decode cX11_worth 15 = .ok (.ifCond .lt 20, 3) := by decide +kernel
theorem dX11_worth_18 : decode cX11_worth 18 = .ok (.iload_n 2, 1) := by decide +kernel
theorem dX11_worth_19 : decode cX11_worth 19 = .ok (.sipush 1000, 3) := by decide +kernel
theorem dX11_worth_22 : decode cX11_worth 22 = .ok (.if_icmp .gt 13, 3) := by decide +kernel
theorem dX11_worth_25 : decode cX11_worth 25 = .ok (.aload_n 0, 1) := by decide +kernel
theorem dX11_worth_26 : decode cX11_worth 26 = .ok (.getfield 34, 3) := by decide +kernel
theorem dX11_worth_29 : decode cX11_worth 29 = .ok (.getfield 125, 3) := by decide +kernel
theorem dX11_worth_32 : decode cX11_worth 32 = .ok (.ifCond .ne 5, 3) := by decide +kernel
theorem dX11_worth_35 : decode cX11_worth 35 = .ok (.iconst (-1), 1) := by decide +kernel
theorem dX11_worth_36 : decode cX11_worth 36 = .ok (.ireturn, 1) := by decide +kernel
theorem dX11_worth_37 : decode cX11_worth 37 = .ok (.aload_n 0, 1) := by decide +kernel
theorem dX11_worth_38 : decode cX11_worth 38 = .ok (.getfield 52, 3) := by decide +kernel
theorem dX11_worth_41 : decode cX11_worth 41 = .ok (.aload_n 0, 1) := by decide +kernel
theorem dX11_worth_42 : decode cX11_worth 42 = .ok (.getfield 52, 3) := by decide +kernel
theorem dX11_worth_45 : decode cX11_worth 45 = .ok (.getfield 145, 3) := by decide +kernel
theorem dX11_worth_48 : decode cX11_worth 48 = .ok (.invokevirtual 250, 3) := by decide +kernel
theorem dX11_worth_51 : decode cX11_worth 51 = .ok (.iconst 0, 1) := by decide +kernel
theorem dX11_worth_52 : decode cX11_worth 52 = .ok (.istore_n 3, 1) := by decide +kernel
theorem dX11_worth_53 : decode cX11_worth 53 = .ok (.iconst 0, 1) := by decide +kernel
theorem dX11_worth_54 : decode cX11_worth 54 = .ok (.istore 4, 2) := by decide +kernel
theorem dX11_worth_56 : decode cX11_worth 56 = .ok (.iload 4, 2) := by decide +kernel
theorem dX11_worth_58 : decode cX11_worth 58 = .ok (.aload_n 0, 1) := by decide +kernel
theorem dX11_worth_59 : decode cX11_worth 59 = .ok (.getfield 45, 3) := by decide +kernel
theorem dX11_worth_62 : decode cX11_worth 62 = .ok (.getfield 328, 3) := by decide +kernel
theorem dX11_worth_65 : decode cX11_worth 65 = .ok (.if_icmp .ge 66, 3) := by decide +kernel
theorem dX11_worth_68 : decode cX11_worth 68 = .ok (.aload_n 0, 1) := by decide +kernel
theorem dX11_worth_69 : decode cX11_worth 69 = .ok (.getfield 61, 3) := by decide +kernel
theorem dX11_worth_72 : decode cX11_worth 72 = .ok (.iload 4, 2) := by decide +kernel
theorem dX11_worth_74 : decode cX11_worth 74 = .ok (.iconst (-1), 1) := by decide +kernel
theorem dX11_worth_75 : decode cX11_worth 75 = .ok (.invokevirtual 253, 3) := by decide +kernel
theorem dX11_worth_78 : decode cX11_worth 78 = .ok (.iload_n 3, 1) := by decide +kernel
theorem dX11_worth_79 : decode cX11_worth 79 = .ok (.iload_n 1, 1) := by decide +kernel
theorem dX11_worth_80 : decode cX11_worth 80 = .ok (.ifCond .ne 18, 3) := by decide +kernel
theorem dX11_worth_83 : decode cX11_worth 83 = .ok (.aload_n 0, 1) := by decide +kernel
theorem dX11_worth_84 : decode cX11_worth 84 = .ok (.getfield 101, 3) := by decide +kernel
theorem dX11_worth_87 : decode cX11_worth 87 = .ok (.aload_n 0, 1) := by decide +kernel
theorem dX11_worth_88 : decode cX11_worth 88 = .ok (.getfield 61, 3) := by decide +kernel
theorem dX11_worth_91 : decode cX11_worth 91 = .ok (.getfield 263, 3) := by decide +kernel
theorem dX11_worth_94 : decode cX11_worth 94 = .ok (.iaload, 1) := by decide +kernel
theorem dX11_worth_95 : decode cX11_worth 95 = .ok (.goto 28, 3) := by decide +kernel
theorem dX11_worth_98 : decode cX11_worth 98 = .ok (.iload_n 1, 1) := by decide +kernel
theorem dX11_worth_99 : decode cX11_worth 99 = .ok (.iconst 1, 1) := by decide +kernel
theorem dX11_worth_100 : decode cX11_worth 100 = .ok (.if_icmp .ne 10, 3) := by decide +kernel
theorem dX11_worth_103 : decode cX11_worth 103 = .ok (.aload_n 0, 1) := by decide +kernel
theorem dX11_worth_104 : decode cX11_worth 104 = .ok (.invokevirtual 330, 3) := by decide +kernel
theorem dX11_worth_107 : decode cX11_worth 107 = .ok (.goto 16, 3) := by decide +kernel
theorem dX11_worth_110 : decode cX11_worth 110 = .ok (.aload_n 0, 1) := by decide +kernel
theorem dX11_worth_111 : decode cX11_worth 111 = .ok (.iload_n 2, 1) := by decide +kernel
theorem dX11_worth_112 : decode cX11_worth 112 = .ok (.invokevirtual 333, 3) := by decide +kernel
theorem dX11_worth_115 : decode cX11_worth 115 = .ok (.ifCond .eq 7, 3) := by decide +kernel
theorem dX11_worth_118 : decode cX11_worth 118 = .ok (.iconst 1, 1) := by decide +kernel
theorem dX11_worth_119 : decode cX11_worth 119 = .ok (.goto 4, 3) := by decide +kernel
theorem dX11_worth_122 : decode cX11_worth 122 = .ok (.iconst 0, 1) := by decide +kernel
theorem dX11_worth_123 : decode cX11_worth 123 = .ok (.iadd, 1) := by decide +kernel
theorem dX11_worth_124 : decode cX11_worth 124 = .ok (.istore_n 3, 1) := by decide +kernel
theorem dX11_worth_125 : decode cX11_worth 125 = .ok (.iinc 4 1, 3) := by decide +kernel
theorem dX11_worth_128 : decode cX11_worth 128 = .ok (.goto (-72), 3) := by decide +kernel
theorem dX11_worth_131 : decode cX11_worth 131 = .ok (.iload_n 3, 1) := by decide +kernel
theorem dX11_worth_132 : decode cX11_worth 132 = .ok (.ireturn, 1) := by decide +kernel
theorem dX11_hands_0 : decode cX11_hands 0 = .ok (.iload_n 1, 1) := by decide +kernel
theorem dX11_hands_1 : decode cX11_hands 1 = .ok (.invokestatic 138, 3) := by decide +kernel
theorem dX11_hands_4 : decode cX11_hands 4 = .ok (.ifCond .eq 24, 3) := by decide +kernel
theorem dX11_hands_7 : decode cX11_hands 7 = .ok (.iload_n 2, 1) := by decide +kernel
theorem dX11_hands_8 : decode cX11_hands 8 = .ok (.invokestatic 138, 3) := by decide +kernel
theorem dX11_hands_11 : decode cX11_hands 11 = .ok (.ifCond .eq 17, 3) := by decide +kernel
theorem dX11_hands_14 : decode cX11_hands 14 = .ok (.iload_n 1, 1) := by decide +kernel
theorem dX11_hands_15 : decode cX11_hands 15 = .ok (.iload_n 2, 1) := by decide +kernel
theorem dX11_hands_16 : decode cX11_hands 16 = .ok (.if_icmp .eq 12, 3) := by decide +kernel
theorem dX11_hands_19 : decode cX11_hands 19 = .ok (.iload_n 3, 1) := by decide +kernel
theorem dX11_hands_20 : decode cX11_hands 20 = .ok (.ifCond .lt 8, 3) := by decide +kernel
theorem dX11_hands_23 : decode cX11_hands 23 = .ok (.iload_n 3, 1) := by decide +kernel
theorem dX11_hands_24 : decode cX11_hands 24 = .ok (.iconst 4, 1) := by decide +kernel
theorem dX11_hands_25 : decode cX11_hands 25 = .ok (.if_icmp .le 7, 3) := by decide +kernel
theorem dX11_hands_28 : decode cX11_hands 28 = .ok (.ldc_w 336, 3) := by decide +kernel
theorem dX11_hands_31 : decode cX11_hands 31 = .ok (.ireturn, 1) := by decide +kernel
theorem dX11_hands_32 : decode cX11_hands 32 = .ok (.aload_n 0, 1) := by decide +kernel
theorem dX11_hands_33 : decode cX11_hands 33 = .ok (.getfield 52, 3) := by decide +kernel
theorem dX11_hands_36 : decode cX11_hands 36 = .ok (.aload_n 0, 1) := by decide +kernel
theorem dX11_hands_37 : decode cX11_hands 37 = .ok (.getfield 52, 3) := by decide +kernel
theorem dX11_hands_40 : decode cX11_hands 40 = .ok (.getfield 145, 3) := by decide +kernel
theorem dX11_hands_43 : decode cX11_hands 43 = .ok (.invokevirtual 250, 3) := by decide +kernel
theorem dX11_hands_46 : decode cX11_hands 46 = .ok (.aload_n 0, 1) := by decide +kernel
theorem dX11_hands_47 : decode cX11_hands 47 = .ok (.getfield 97, 3) := by decide +kernel
theorem dX11_hands_50 : decode cX11_hands 50 = .ok (.iload_n 1, 1) := by decide +kernel
theorem dX11_hands_51 : decode cX11_hands 51 = .ok (.iload_n 2, 1) := by decide +kernel
theorem dX11_hands_52 : decode cX11_hands 52 = .ok (.invokevirtual 337, 3) := by decide +kernel
theorem dX11_hands_55 : decode cX11_hands 55 = .ok (.iload_n 3, 1) := by decide +kernel
theorem dX11_hands_56 : decode cX11_hands 56 = .ok (.tableswitch 64 0 3 #[32, 40, 48, 56], 32) := by decide +kernel
theorem dX11_hands_88 : decode cX11_hands 88 = .ok (.aload_n 0, 1) := by decide +kernel
theorem dX11_hands_89 : decode cX11_hands 89 = .ok (.getfield 97, 3) := by decide +kernel
theorem dX11_hands_92 : decode cX11_hands 92 = .ok (.getfield 340, 3) := by decide +kernel
theorem dX11_hands_95 : decode cX11_hands 95 = .ok (.ireturn, 1) := by decide +kernel
theorem dX11_hands_96 : decode cX11_hands 96 = .ok (.aload_n 0, 1) := by decide +kernel
theorem dX11_hands_97 : decode cX11_hands 97 = .ok (.getfield 97, 3) := by decide +kernel
theorem dX11_hands_100 : decode cX11_hands 100 = .ok (.getfield 343, 3) := by decide +kernel
theorem dX11_hands_103 : decode cX11_hands 103 = .ok (.ireturn, 1) := by decide +kernel
theorem dX11_hands_104 : decode cX11_hands 104 = .ok (.aload_n 0, 1) := by decide +kernel
theorem dX11_hands_105 : decode cX11_hands 105 = .ok (.getfield 97, 3) := by decide +kernel
theorem dX11_hands_108 : decode cX11_hands 108 = .ok (.getfield 346, 3) := by decide +kernel
theorem dX11_hands_111 : decode cX11_hands 111 = .ok (.ireturn, 1) := by decide +kernel
theorem dX11_hands_112 : decode cX11_hands 112 = .ok (.aload_n 0, 1) := by decide +kernel
theorem dX11_hands_113 : decode cX11_hands 113 = .ok (.getfield 97, 3) := by decide +kernel
theorem dX11_hands_116 : decode cX11_hands 116 = .ok (.getfield 349, 3) := by decide +kernel
theorem dX11_hands_119 : decode cX11_hands 119 = .ok (.ireturn, 1) := by decide +kernel
theorem dX11_hands_120 : decode cX11_hands 120 = .ok (.aload_n 0, 1) := by decide +kernel
theorem dX11_hands_121 : decode cX11_hands 121 = .ok (.getfield 97, 3) := by decide +kernel
theorem dX11_hands_124 : decode cX11_hands 124 = .ok (.getfield 352, 3) := by decide +kernel
theorem dX11_hands_127 : decode cX11_hands 127 = .ok (.ireturn, 1) := by decide +kernel
theorem dX11_count_0 : decode cX11_count 0 = .ok (.iload_n 1, 1) := by decide +kernel
theorem dX11_count_1 : decode cX11_count 1 = .ok (.tableswitch 113 0 6 #[43, 51, 59, 67, 75, 83, 91], 43) := by decide +kernel
theorem dX11_count_44 : decode cX11_count 44 = .ok (.aload_n 0, 1) := by decide +kernel
theorem dX11_count_45 : decode cX11_count 45 = .ok (.getfield 45, 3) := by decide +kernel
theorem dX11_count_48 : decode cX11_count 48 = .ok (.getfield 282, 3) := by decide +kernel
theorem dX11_count_51 : decode cX11_count 51 = .ok (.ireturn, 1) := by decide +kernel
theorem dX11_count_52 : decode cX11_count 52 = .ok (.aload_n 0, 1) := by decide +kernel
theorem dX11_count_53 : decode cX11_count 53 = .ok (.getfield 45, 3) := by decide +kernel
theorem dX11_count_56 : decode cX11_count 56 = .ok (.getfield 285, 3) := by decide +kernel
theorem dX11_count_59 : decode cX11_count 59 = .ok (.ireturn, 1) := by decide +kernel
theorem dX11_count_60 : decode cX11_count 60 = .ok (.aload_n 0, 1) := by decide +kernel
theorem dX11_count_61 : decode cX11_count 61 = .ok (.getfield 52, 3) := by decide +kernel
theorem dX11_count_64 : decode cX11_count 64 = .ok (.getfield 145, 3) := by decide +kernel
theorem dX11_count_67 : decode cX11_count 67 = .ok (.ireturn, 1) := by decide +kernel
theorem dX11_count_68 : decode cX11_count 68 = .ok (.aload_n 0, 1) := by decide +kernel
theorem dX11_count_69 : decode cX11_count 69 = .ok (.getfield 34, 3) := by decide +kernel
theorem dX11_count_72 : decode cX11_count 72 = .ok (.getfield 125, 3) := by decide +kernel
theorem dX11_count_75 : decode cX11_count 75 = .ok (.ireturn, 1) := by decide +kernel
theorem dX11_count_76 : decode cX11_count 76 = .ok (.aload_n 0, 1) := by decide +kernel
theorem dX11_count_77 : decode cX11_count 77 = .ok (.getfield 34, 3) := by decide +kernel
theorem dX11_count_80 : decode cX11_count 80 = .ok (.getfield 135, 3) := by decide +kernel
theorem dX11_count_83 : decode cX11_count 83 = .ok (.ireturn, 1) := by decide +kernel
theorem dX11_count_84 : decode cX11_count 84 = .ok (.aload_n 0, 1) := by decide +kernel
theorem dX11_count_85 : decode cX11_count 85 = .ok (.getfield 34, 3) := by decide +kernel
theorem dX11_count_88 : decode cX11_count 88 = .ok (.getfield 355, 3) := by decide +kernel
theorem dX11_count_91 : decode cX11_count 91 = .ok (.ireturn, 1) := by decide +kernel
theorem dX11_count_92 : decode cX11_count 92 = .ok (.aload_n 0, 1) := by decide +kernel
theorem dX11_count_93 : decode cX11_count 93 = .ok (.getfield 52, 3) := by decide +kernel
theorem dX11_count_96 : decode cX11_count 96 = .ok (.aload_n 0, 1) := by decide +kernel
theorem dX11_count_97 : decode cX11_count 97 = .ok (.getfield 52, 3) := by decide +kernel
theorem dX11_count_100 : decode cX11_count 100 = .ok (.getfield 145, 3) := by decide +kernel
theorem dX11_count_103 : decode cX11_count 103 = .ok (.invokevirtual 250, 3) := by decide +kernel
theorem dX11_count_106 : decode cX11_count 106 = .ok (.aload_n 0, 1) := by decide +kernel
theorem dX11_count_107 : decode cX11_count 107 = .ok (.getfield 52, 3) := by decide +kernel
theorem dX11_count_110 : decode cX11_count 110 = .ok (.getfield 273, 3) := by decide +kernel
theorem dX11_count_113 : decode cX11_count 113 = .ok (.ireturn, 1) := by decide +kernel
theorem dX11_count_114 : decode cX11_count 114 = .ok (.iconst (-1), 1) := by decide +kernel
theorem dX11_count_115 : decode cX11_count 115 = .ok (.ireturn, 1) := by decide +kernel
theorem dX11_putBytes_0 : decode cX11_putBytes 0 = .ok (.bipush 24, 2) := by decide +kernel
theorem dX11_putBytes_2 : decode cX11_putBytes 2 = .ok (.istore_n 2, 1) := by decide +kernel
theorem dX11_putBytes_3 : decode cX11_putBytes 3 = .ok (.iload_n 2, 1) := by decide +kernel
theorem dX11_putBytes_4 : decode cX11_putBytes 4 = .ok (.ifCond .lt 45, 3) := by decide +kernel
theorem dX11_putBytes_7 : decode cX11_putBytes 7 = .ok (.aload_n 0, 1) := by decide +kernel
theorem dX11_putBytes_8 : decode cX11_putBytes 8 = .ok (.getfield 104, 3) := by decide +kernel
theorem dX11_putBytes_11 : decode cX11_putBytes 11 = .ok (.sipush 800, 3) := by decide +kernel
theorem dX11_putBytes_14 : decode cX11_putBytes 14 = .ok (.if_icmp .ge 35, 3) := by decide +kernel
theorem dX11_putBytes_17 : decode cX11_putBytes 17 = .ok (.aload_n 0, 1) := by decide +kernel
theorem dX11_putBytes_18 : decode cX11_putBytes 18 = .ok (.getfield 9, 3) := by decide +kernel
theorem dX11_putBytes_21 : decode cX11_putBytes 21 = .ok (.aload_n 0, 1) := by decide +kernel
theorem dX11_putBytes_22 : decode cX11_putBytes 22 = .ok (.getfield 104, 3) := by decide +kernel
theorem dX11_putBytes_25 : decode cX11_putBytes 25 = .ok (.iload_n 1, 1) := by decide +kernel
theorem dX11_putBytes_26 : decode cX11_putBytes 26 = .ok (.iload_n 2, 1) := by decide +kernel
theorem dX11_putBytes_27 : decode cX11_putBytes 27 = .ok (.ishr, 1) := by decide +kernel
theorem dX11_putBytes_28 : decode cX11_putBytes 28 = .ok (.sipush 255, 3) := by decide +kernel
theorem dX11_putBytes_31 : decode cX11_putBytes 31 = .ok (.iand, 1) := by decide +kernel
theorem dX11_putBytes_32 : decode cX11_putBytes 32 = .ok (.iastore, 1) := by decide +kernel
theorem dX11_putBytes_33 : decode cX11_putBytes 33 = .ok (.aload_n 0, 1) := by decide +kernel
theorem dX11_putBytes_34 : decode cX11_putBytes 34 = .ok (.dup, 1) := by decide +kernel
theorem dX11_putBytes_35 : decode cX11_putBytes 35 = .ok (.getfield 104, 3) := by decide +kernel
theorem dX11_putBytes_38 : decode cX11_putBytes 38 = .ok (.iconst 1, 1) := by decide +kernel
theorem dX11_putBytes_39 : decode cX11_putBytes 39 = .ok (.iadd, 1) := by decide +kernel
theorem dX11_putBytes_40 : decode cX11_putBytes 40 = .ok (.putfield 104, 3) := by decide +kernel
theorem dX11_putBytes_43 : decode cX11_putBytes 43 = .ok (.iinc 2 (-8), 3) := by decide +kernel
theorem dX11_putBytes_46 : decode cX11_putBytes 46 = .ok (.goto (-43), 3) := by decide +kernel
theorem dX11_putBytes_49 : decode cX11_putBytes 49 = .ok (.return_, 1) := by decide +kernel
theorem dX11_keepFault_0 : decode cX11_keepFault 0 = .ok (.aload_n 0, 1) := by decide +kernel
theorem dX11_keepFault_1 : decode cX11_keepFault 1 = .ok (.aload_n 0, 1) := by decide +kernel
theorem dX11_keepFault_2 : decode cX11_keepFault 2 = .ok (.getfield 18, 3) := by decide +kernel
theorem dX11_keepFault_5 : decode cX11_keepFault 5 = .ok (.getfield 358, 3) := by decide +kernel
theorem dX11_keepFault_8 : decode cX11_keepFault 8 = .ok (.putfield 170, 3) := by decide +kernel
theorem dX11_keepFault_11 : decode cX11_keepFault 11 = .ok (.aload_n 0, 1) := by decide +kernel
theorem dX11_keepFault_12 : decode cX11_keepFault 12 = .ok (.aload_n 0, 1) := by decide +kernel
theorem dX11_keepFault_13 : decode cX11_keepFault 13 = .ok (.getfield 18, 3) := by decide +kernel
theorem dX11_keepFault_16 : decode cX11_keepFault 16 = .ok (.getfield 361, 3) := by decide +kernel
theorem dX11_keepFault_19 : decode cX11_keepFault 19 = .ok (.putfield 38, 3) := by decide +kernel
theorem dX11_keepFault_22 : decode cX11_keepFault 22 = .ok (.aload_n 0, 1) := by decide +kernel
theorem dX11_keepFault_23 : decode cX11_keepFault 23 = .ok (.iconst 0, 1) := by decide +kernel
theorem dX11_keepFault_24 : decode cX11_keepFault 24 = .ok (.putfield 104, 3) := by decide +kernel
theorem dX11_keepFault_27 : decode cX11_keepFault 27 = .ok (.return_, 1) := by decide +kernel
theorem dX11_isKind_0 : decode cX11_isKind 0 = .ok (.iload_n 1, 1) := by decide +kernel
theorem dX11_isKind_1 : decode cX11_isKind 1 = .ok (.ifCond .lt 18, 3) := by decide +kernel
theorem dX11_isKind_4 : decode cX11_isKind 4 = .ok (.iload_n 1, 1) := by decide +kernel
theorem dX11_isKind_5 : decode cX11_isKind 5 = .ok (.aload_n 0, 1) := by decide +kernel
theorem dX11_isKind_6 : decode cX11_isKind 6 = .ok (.getfield 34, 3) := by decide +kernel
theorem dX11_isKind_9 : decode cX11_isKind 9 = .ok (.getfield 125, 3) := by decide +kernel
theorem dX11_isKind_12 : decode cX11_isKind 12 = .ok (.if_icmp .ge 7, 3) := by decide +kernel
theorem dX11_isKind_15 : decode cX11_isKind 15 = .ok (.iconst 1, 1) := by decide +kernel
theorem dX11_isKind_16 : decode cX11_isKind 16 = .ok (.goto 4, 3) := by decide +kernel
theorem dX11_isKind_19 : decode cX11_isKind 19 = .ok (.iconst 0, 1) := by decide +kernel
theorem dX11_isKind_20 : decode cX11_isKind 20 = .ok (.ireturn, 1) := by decide +kernel
theorem dX11_isHand_0 : decode cX11_isHand 0 = .ok (.iload_n 0, 1) := by decide +kernel
theorem dX11_isHand_1 : decode cX11_isHand 1 = .ok (.ifCond .lt 12, 3) := by decide +kernel
theorem dX11_isHand_4 : decode cX11_isHand 4 = .ok (.iload_n 0, 1) := by decide +kernel
theorem dX11_isHand_5 : decode cX11_isHand 5 = .ok (.iconst 3, 1) := by decide +kernel
theorem dX11_isHand_6 : decode cX11_isHand 6 = .ok (.if_icmp .ge 7, 3) := by decide +kernel
theorem dX11_isHand_9 : decode cX11_isHand 9 = .ok (.iconst 1, 1) := by decide +kernel
theorem dX11_isHand_10 : decode cX11_isHand 10 = .ok (.goto 4, 3) := by decide +kernel
theorem dX11_isHand_13 : decode cX11_isHand 13 = .ok (.iconst 0, 1) := by decide +kernel
theorem dX11_isHand_14 : decode cX11_isHand 14 = .ok (.ireturn, 1) := by decide +kernel
theorem dX11_countRight_0 : decode cX11_countRight 0 = .ok (.iconst 0, 1) := by decide +kernel
theorem dX11_countRight_1 : decode cX11_countRight 1 = .ok (.istore_n 1, 1) := by decide +kernel
theorem dX11_countRight_2 : decode cX11_countRight 2 = .ok (.iconst 0, 1) := by decide +kernel
theorem dX11_countRight_3 : decode cX11_countRight 3 = .ok (.istore_n 2, 1) := by decide +kernel
theorem dX11_countRight_4 : decode cX11_countRight 4 = .ok (.iload_n 2, 1) := by decide +kernel
theorem dX11_countRight_5 : decode cX11_countRight 5 = .ok (.aload_n 0, 1) := by decide +kernel
theorem dX11_countRight_6 : decode cX11_countRight 6 = .ok (.getfield 52, 3) := by decide +kernel
theorem dX11_countRight_9 : decode cX11_countRight 9 = .ok (.getfield 273, 3) := by decide +kernel
theorem dX11_countRight_12 : decode cX11_countRight 12 = .ok (.if_icmp .ge 56, 3) := by decide +kernel
theorem dX11_countRight_15 : decode cX11_countRight 15 = .ok (.aload_n 0, 1) := by decide +kernel
theorem dX11_countRight_16 : decode cX11_countRight 16 = .ok (.getfield 52, 3) := by decide +kernel
theorem dX11_countRight_19 : decode cX11_countRight 19 = .ok (.getfield 148, 3) := by decide +kernel
theorem dX11_countRight_22 : decode cX11_countRight 22 = .ok (.aload_n 0, 1) := by decide +kernel
theorem dX11_countRight_23 : decode cX11_countRight 23 = .ok (.getfield 52, 3) := by decide +kernel
theorem dX11_countRight_26 : decode cX11_countRight 26 = .ok (.getfield 364, 3) := by decide +kernel
theorem dX11_countRight_29 : decode cX11_countRight 29 = .ok (.iload_n 2, 1) := by decide +kernel
theorem dX11_countRight_30 : decode cX11_countRight 30 = .ok (.iaload, 1) := by decide +kernel
theorem dX11_countRight_31 : decode cX11_countRight 31 = .ok (.aaload, 1) := by decide +kernel
theorem dX11_countRight_32 : decode cX11_countRight 32 = .ok (.astore_n 3, 1) := by decide +kernel
theorem dX11_countRight_33 : decode cX11_countRight 33 = .ok (.aload_n 0, 1) := by decide +kernel
theorem dX11_countRight_34 : decode cX11_countRight 34 = .ok (.getfield 61, 3) := by decide +kernel
theorem dX11_countRight_37 : decode cX11_countRight 37 = .ok (.aload_n 3, 1) := by decide +kernel
theorem dX11_countRight_38 : decode cX11_countRight 38 = .ok (.getfield 164, 3) := by decide +kernel
theorem dX11_countRight_41 : decode cX11_countRight 41 = .ok (.iload_n 2, 1) := by decide +kernel
theorem dX11_countRight_42 : decode cX11_countRight 42 = .ok (.invokevirtual 253, 3) := by decide +kernel
theorem dX11_countRight_45 : decode cX11_countRight 45 = .ok (.aload_n 0, 1) := by decide +kernel
theorem dX11_countRight_46 : decode cX11_countRight 46 = .ok (.getfield 61, 3) := by decide +kernel
theorem dX11_countRight_49 : decode cX11_countRight 49 = .ok (.getfield 263, 3) := by decide +kernel
theorem dX11_countRight_52 : decode cX11_countRight 52 = .ok (.aload_n 3, 1) := by decide +kernel
theorem dX11_countRight_53 : decode cX11_countRight 53 = .ok (.getfield 213, 3) := by decide +kernel
theorem dX11_countRight_56 : decode cX11_countRight 56 = .ok (.if_icmp .ne 6, 3) := by decide +kernel
theorem dX11_countRight_59 : decode cX11_countRight 59 = .ok (.iinc 1 1, 3) := by decide +kernel
theorem dX11_countRight_62 : decode cX11_countRight 62 = .ok (.iinc 2 1, 3) := by decide +kernel
theorem dX11_countRight_65 : decode cX11_countRight 65 = .ok (.goto (-61), 3) := by decide +kernel
theorem dX11_countRight_68 : decode cX11_countRight 68 = .ok (.iload_n 1, 1) := by decide +kernel
theorem dX11_countRight_69 : decode cX11_countRight 69 = .ok (.ireturn, 1) := by decide +kernel
theorem dX11_sumSaid_0 : decode cX11_sumSaid 0 = .ok (.iconst 0, 1) := by decide +kernel
theorem dX11_sumSaid_1 : decode cX11_sumSaid 1 = .ok (.istore_n 1, 1) := by decide +kernel
theorem dX11_sumSaid_2 : decode cX11_sumSaid 2 = .ok (.iconst 0, 1) := by decide +kernel
theorem dX11_sumSaid_3 : decode cX11_sumSaid 3 = .ok (.istore_n 2, 1) := by decide +kernel
theorem dX11_sumSaid_4 : decode cX11_sumSaid 4 = .ok (.iload_n 2, 1) := by decide +kernel
theorem dX11_sumSaid_5 : decode cX11_sumSaid 5 = .ok (.aload_n 0, 1) := by decide +kernel
theorem dX11_sumSaid_6 : decode cX11_sumSaid 6 = .ok (.getfield 52, 3) := by decide +kernel
theorem dX11_sumSaid_9 : decode cX11_sumSaid 9 = .ok (.getfield 273, 3) := by decide +kernel
theorem dX11_sumSaid_12 : decode cX11_sumSaid 12 = .ok (.if_icmp .ge 54, 3) := by decide +kernel
theorem dX11_sumSaid_15 : decode cX11_sumSaid 15 = .ok (.aload_n 0, 1) := by decide +kernel
theorem dX11_sumSaid_16 : decode cX11_sumSaid 16 = .ok (.getfield 61, 3) := by decide +kernel
theorem dX11_sumSaid_19 : decode cX11_sumSaid 19 = .ok (.aload_n 0, 1) := by decide +kernel
theorem dX11_sumSaid_20 : decode cX11_sumSaid 20 = .ok (.getfield 52, 3) := by decide +kernel
theorem dX11_sumSaid_23 : decode cX11_sumSaid 23 = .ok (.getfield 148, 3) := by decide +kernel
theorem dX11_sumSaid_26 : decode cX11_sumSaid 26 = .ok (.aload_n 0, 1) := by decide +kernel
theorem dX11_sumSaid_27 : decode cX11_sumSaid 27 = .ok (.getfield 52, 3) := by decide +kernel
theorem dX11_sumSaid_30 : decode cX11_sumSaid 30 = .ok (.getfield 364, 3) := by decide +kernel
theorem dX11_sumSaid_33 : decode cX11_sumSaid 33 = .ok (.iload_n 2, 1) := by decide +kernel
theorem dX11_sumSaid_34 : decode cX11_sumSaid 34 = .ok (.iaload, 1) := by decide +kernel
theorem dX11_sumSaid_35 : decode cX11_sumSaid 35 = .ok (.aaload, 1) := by decide +kernel
theorem dX11_sumSaid_36 : decode cX11_sumSaid 36 = .ok (.getfield 164, 3) := by decide +kernel
theorem dX11_sumSaid_39 : decode cX11_sumSaid 39 = .ok (.iload_n 2, 1) := by decide +kernel
theorem dX11_sumSaid_40 : decode cX11_sumSaid 40 = .ok (.invokevirtual 253, 3) := by decide +kernel
theorem dX11_sumSaid_43 : decode cX11_sumSaid 43 = .ok (.iload_n 1, 1) := by decide +kernel
theorem dX11_sumSaid_44 : decode cX11_sumSaid 44 = .ok (.aload_n 0, 1) := by decide +kernel
theorem dX11_sumSaid_45 : decode cX11_sumSaid 45 = .ok (.getfield 61, 3) := by decide +kernel
theorem dX11_sumSaid_48 : decode cX11_sumSaid 48 = .ok (.aload_n 0, 1) := by decide +kernel
theorem dX11_sumSaid_49 : decode cX11_sumSaid 49 = .ok (.getfield 61, 3) := by decide +kernel
theorem dX11_sumSaid_52 : decode cX11_sumSaid 52 = .ok (.getfield 263, 3) := by decide +kernel
theorem dX11_sumSaid_55 : decode cX11_sumSaid 55 = .ok (.invokevirtual 259, 3) := by decide +kernel
theorem dX11_sumSaid_58 : decode cX11_sumSaid 58 = .ok (.iadd, 1) := by decide +kernel
theorem dX11_sumSaid_59 : decode cX11_sumSaid 59 = .ok (.istore_n 1, 1) := by decide +kernel
theorem dX11_sumSaid_60 : decode cX11_sumSaid 60 = .ok (.iinc 2 1, 3) := by decide +kernel
theorem dX11_sumSaid_63 : decode cX11_sumSaid 63 = .ok (.goto (-59), 3) := by decide +kernel
theorem dX11_sumSaid_66 : decode cX11_sumSaid 66 = .ok (.iload_n 1, 1) := by decide +kernel
theorem dX11_sumSaid_67 : decode cX11_sumSaid 67 = .ok (.ireturn, 1) := by decide +kernel
theorem dX11_fairValue_0 : decode cX11_fairValue 0 = .ok (.lconst 0, 1) := by decide +kernel
theorem dX11_fairValue_1 : decode cX11_fairValue 1 = .ok (.lstore_n 1, 1) := by decide +kernel
theorem dX11_fairValue_2 : decode cX11_fairValue 2 = .ok (.iconst 0, 1) := by decide +kernel
theorem dX11_fairValue_3 : decode cX11_fairValue 3 = .ok (.istore_n 3, 1) := by decide +kernel
theorem dX11_fairValue_4 : decode cX11_fairValue 4 = .ok (.iload_n 3, 1) := by decide +kernel
theorem dX11_fairValue_5 : decode cX11_fairValue 5 = .ok (.aload_n 0, 1) := by decide +kernel
theorem dX11_fairValue_6 : decode cX11_fairValue 6 = .ok (.getfield 34, 3) := by decide +kernel
theorem dX11_fairValue_9 : decode cX11_fairValue 9 = .ok (.getfield 125, 3) := by decide +kernel
theorem dX11_fairValue_12 : decode cX11_fairValue 12 = .ok (.if_icmp .ge 30, 3) := by decide +kernel
theorem dX11_fairValue_15 : decode cX11_fairValue 15 = .ok (.lload_n 1, 1) := by decide +kernel
theorem dX11_fairValue_16 : decode cX11_fairValue 16 = .ok (.aload_n 0, 1) := by decide +kernel
theorem dX11_fairValue_17 : decode cX11_fairValue 17 = .ok (.getfield 101, 3) := by decide +kernel
theorem dX11_fairValue_20 : decode cX11_fairValue 20 = .ok (.iload_n 3, 1) := by decide +kernel
theorem dX11_fairValue_21 : decode cX11_fairValue 21 = .ok (.iaload, 1) := by decide +kernel
theorem dX11_fairValue_22 : decode cX11_fairValue 22 = .ok (.i2l, 1) := by decide +kernel
theorem dX11_fairValue_23 : decode cX11_fairValue 23 = .ok (.aload_n 0, 1) := by decide +kernel
theorem dX11_fairValue_24 : decode cX11_fairValue 24 = .ok (.getfield 61, 3) := by decide +kernel
theorem dX11_fairValue_27 : decode cX11_fairValue 27 = .ok (.getfield 256, 3) := by decide +kernel
theorem dX11_fairValue_30 : decode cX11_fairValue 30 = .ok (.iload_n 3, 1) := by decide +kernel
theorem dX11_fairValue_31 : decode cX11_fairValue 31 = .ok (.iaload, 1) := by decide +kernel
theorem dX11_fairValue_32 : decode cX11_fairValue 32 = .ok (.i2l, 1) := by decide +kernel
theorem dX11_fairValue_33 : decode cX11_fairValue 33 = .ok (.lmul, 1) := by decide +kernel
theorem dX11_fairValue_34 : decode cX11_fairValue 34 = .ok (.ladd, 1) := by decide +kernel
theorem dX11_fairValue_35 : decode cX11_fairValue 35 = .ok (.lstore_n 1, 1) := by decide +kernel
theorem dX11_fairValue_36 : decode cX11_fairValue 36 = .ok (.iinc 3 1, 3) := by decide +kernel
theorem dX11_fairValue_39 : decode cX11_fairValue 39 = .ok (.goto (-35), 3) := by decide +kernel
theorem dX11_fairValue_42 : decode cX11_fairValue 42 = .ok (.aload_n 0, 1) := by decide +kernel
theorem dX11_fairValue_43 : decode cX11_fairValue 43 = .ok (.getfield 61, 3) := by decide +kernel
theorem dX11_fairValue_46 : decode cX11_fairValue 46 = .ok (.getfield 270, 3) := by decide +kernel
theorem dX11_fairValue_49 : decode cX11_fairValue 49 = .ok (.ifCond .le 17, 3) := by decide +kernel
theorem dX11_fairValue_52 : decode cX11_fairValue 52 = .ok (.lload_n 1, 1) := by decide +kernel
theorem dX11_fairValue_53 : decode cX11_fairValue 53 = .ok (.aload_n 0, 1) := by decide +kernel
theorem dX11_fairValue_54 : decode cX11_fairValue 54 = .ok (.getfield 61, 3) := by decide +kernel
theorem dX11_fairValue_57 : decode cX11_fairValue 57 = .ok (.getfield 270, 3) := by decide +kernel
theorem dX11_fairValue_60 : decode cX11_fairValue 60 = .ok (.i2l, 1) := by decide +kernel
theorem dX11_fairValue_61 : decode cX11_fairValue 61 = .ok (.ldiv, 1) := by decide +kernel
theorem dX11_fairValue_62 : decode cX11_fairValue 62 = .ok (.l2i, 1) := by decide +kernel
theorem dX11_fairValue_63 : decode cX11_fairValue 63 = .ok (.goto 4, 3) := by decide +kernel
theorem dX11_fairValue_66 : decode cX11_fairValue 66 = .ok (.iconst 0, 1) := by decide +kernel
theorem dX11_fairValue_67 : decode cX11_fairValue 67 = .ok (.ireturn, 1) := by decide +kernel
theorem dX11_isUnsure_0 : decode cX11_isUnsure 0 = .ok (.iconst 0, 1) := by decide +kernel
theorem dX11_isUnsure_1 : decode cX11_isUnsure 1 = .ok (.istore_n 2, 1) := by decide +kernel
theorem dX11_isUnsure_2 : decode cX11_isUnsure 2 = .ok (.iload_n 2, 1) := by decide +kernel
theorem dX11_isUnsure_3 : decode cX11_isUnsure 3 = .ok (.aload_n 0, 1) := by decide +kernel
theorem dX11_isUnsure_4 : decode cX11_isUnsure 4 = .ok (.getfield 34, 3) := by decide +kernel
theorem dX11_isUnsure_7 : decode cX11_isUnsure 7 = .ok (.getfield 125, 3) := by decide +kernel
theorem dX11_isUnsure_10 : decode cX11_isUnsure 10 = .ok (.if_icmp .ge 44, 3) := by decide +kernel
theorem dX11_isUnsure_13 : decode cX11_isUnsure 13 = .ok (.aload_n 0, 1) := by decide +kernel
theorem dX11_isUnsure_14 : decode cX11_isUnsure 14 = .ok (.getfield 101, 3) := by decide +kernel
theorem dX11_isUnsure_17 : decode cX11_isUnsure 17 = .ok (.iload_n 2, 1) := by decide +kernel
theorem dX11_isUnsure_18 : decode cX11_isUnsure 18 = .ok (.iaload, 1) := by decide +kernel
theorem dX11_isUnsure_19 : decode cX11_isUnsure 19 = .ok (.aload_n 0, 1) := by decide +kernel
theorem dX11_isUnsure_20 : decode cX11_isUnsure 20 = .ok (.getfield 101, 3) := by decide +kernel
theorem dX11_isUnsure_23 : decode cX11_isUnsure 23 = .ok (.aload_n 0, 1) := by decide +kernel
theorem dX11_isUnsure_24 : decode cX11_isUnsure 24 = .ok (.getfield 61, 3) := by decide +kernel
theorem dX11_isUnsure_27 : decode cX11_isUnsure 27 = .ok (.getfield 263, 3) := by decide +kernel
theorem dX11_isUnsure_30 : decode cX11_isUnsure 30 = .ok (.iaload, 1) := by decide +kernel
theorem dX11_isUnsure_31 : decode cX11_isUnsure 31 = .ok (.if_icmp .eq 17, 3) := by decide +kernel
theorem dX11_isUnsure_34 : decode cX11_isUnsure 34 = .ok (.aload_n 0, 1) := by decide +kernel
theorem dX11_isUnsure_35 : decode cX11_isUnsure 35 = .ok (.getfield 61, 3) := by decide +kernel
theorem dX11_isUnsure_38 : decode cX11_isUnsure 38 = .ok (.iload_n 2, 1) := by decide +kernel
theorem dX11_isUnsure_39 : decode cX11_isUnsure 39 = .ok (.invokevirtual 259, 3) := by decide +kernel
theorem dX11_isUnsure_42 : decode cX11_isUnsure 42 = .ok (.iload_n 1, 1) := by decide +kernel
theorem dX11_isUnsure_43 : decode cX11_isUnsure 43 = .ok (.if_icmp .lt 5, 3) := by decide +kernel
theorem dX11_isUnsure_46 : decode cX11_isUnsure 46 = .ok (.iconst 1, 1) := by decide +kernel
theorem dX11_isUnsure_47 : decode cX11_isUnsure 47 = .ok (.ireturn, 1) := by decide +kernel
theorem dX11_isUnsure_48 : decode cX11_isUnsure 48 = .ok (.iinc 2 1, 3) := by decide +kernel
theorem dX11_isUnsure_51 : decode cX11_isUnsure 51 = .ok (.goto (-49), 3) := by decide +kernel
theorem dX11_isUnsure_54 : decode cX11_isUnsure 54 = .ok (.iconst 0, 1) := by decide +kernel
theorem dX11_isUnsure_55 : decode cX11_isUnsure 55 = .ok (.ireturn, 1) := by decide +kernel
theorem dX12_init_0 : decode cX12_init 0 = .ok (.aload_n 0, 1) := by decide +kernel
theorem dX12_init_1 : decode cX12_init 1 = .ok (.invokespecial 1, 3) := by decide +kernel
theorem dX12_init_4 : decode cX12_init 4 = .ok (.aload_n 0, 1) := by decide +kernel
theorem dX12_init_5 : decode cX12_init 5 = .ok (.sipush 800, 3) := by decide +kernel
theorem dX12_init_8 : decode cX12_init 8 = .ok (.newarray .int, 2) := by decide +kernel
theorem dX12_init_10 : decode cX12_init 10 = .ok (.putfield 7, 3) := by decide +kernel
theorem dX12_init_13 : decode cX12_init 13 = .ok (.aload_n 0, 1) := by decide +kernel
theorem dX12_init_14 : decode cX12_init 14 = .ok (.iconst 4, 1) := by decide +kernel
theorem dX12_init_15 : decode cX12_init 15 = .ok (.putfield 13, 3) := by decide +kernel
theorem dX12_init_18 : decode cX12_init 18 = .ok (.aload_n 0, 1) := by decide +kernel
theorem dX12_init_19 : decode cX12_init 19 = .ok (.iconst 4, 1) := by decide +kernel
theorem dX12_init_20 : decode cX12_init 20 = .ok (.putfield 17, 3) := by decide +kernel
theorem dX12_init_23 : decode cX12_init 23 = .ok (.aload_n 0, 1) := by decide +kernel
theorem dX12_init_24 : decode cX12_init 24 = .ok (.bipush 64, 2) := by decide +kernel
theorem dX12_init_26 : decode cX12_init 26 = .ok (.newarray .int, 2) := by decide +kernel
theorem dX12_init_28 : decode cX12_init 28 = .ok (.putfield 20, 3) := by decide +kernel
theorem dX12_init_31 : decode cX12_init 31 = .ok (.aload_n 0, 1) := by decide +kernel
theorem dX12_init_32 : decode cX12_init 32 = .ok (.bipush 64, 2) := by decide +kernel
theorem dX12_init_34 : decode cX12_init 34 = .ok (.newarray .int, 2) := by decide +kernel
theorem dX12_init_36 : decode cX12_init 36 = .ok (.putfield 23, 3) := by decide +kernel
theorem dX12_init_39 : decode cX12_init 39 = .ok (.aload_n 0, 1) := by decide +kernel
theorem dX12_init_40 : decode cX12_init 40 = .ok (.bipush 64, 2) := by decide +kernel
theorem dX12_init_42 : decode cX12_init 42 = .ok (.newarray .int, 2) := by decide +kernel
theorem dX12_init_44 : decode cX12_init 44 = .ok (.putfield 26, 3) := by decide +kernel
theorem dX12_init_47 : decode cX12_init 47 = .ok (.aload_n 0, 1) := by decide +kernel
theorem dX12_init_48 : decode cX12_init 48 = .ok (.bipush 64, 2) := by decide +kernel
theorem dX12_init_50 : decode cX12_init 50 = .ok (.newarray .int, 2) := by decide +kernel
theorem dX12_init_52 : decode cX12_init 52 = .ok (.putfield 29, 3) := by decide +kernel
theorem dX12_init_55 : decode cX12_init 55 = .ok (.aload_n 0, 1) := by decide +kernel
theorem dX12_init_56 : decode cX12_init 56 = .ok (.bipush 64, 2) := by decide +kernel
theorem dX12_init_58 : decode cX12_init 58 = .ok (.newarray .int, 2) := by decide +kernel
theorem dX12_init_60 : decode cX12_init 60 = .ok (.putfield 32, 3) := by decide +kernel
theorem dX12_init_63 : decode cX12_init 63 = .ok (.aload_n 0, 1) := by decide +kernel
theorem dX12_init_64 : decode cX12_init 64 = .ok (.iconst 5, 1) := by decide +kernel
theorem dX12_init_65 : decode cX12_init 65 = .ok (.putfield 35, 3) := by decide +kernel
theorem dX12_init_68 : decode cX12_init 68 = .ok (.aload_n 0, 1) := by decide +kernel
theorem dX12_init_69 : decode cX12_init 69 = .ok (.bipush 20, 2) := by decide +kernel
theorem dX12_init_71 : decode cX12_init 71 = .ok (.putfield 38, 3) := by decide +kernel
theorem dX12_init_74 : decode cX12_init 74 = .ok (.aload_n 0, 1) := by decide +kernel
theorem dX12_init_75 : decode cX12_init 75 = .ok (.bipush 30, 2) := by decide +kernel
theorem dX12_init_77 : decode cX12_init 77 = .ok (.putfield 41, 3) := by decide +kernel
theorem dX12_init_80 : decode cX12_init 80 = .ok (.aload_n 0, 1) := by decide +kernel
theorem dX12_init_81 : decode cX12_init 81 = .ok (.bipush 60, 2) := by decide +kernel
theorem dX12_init_83 : decode cX12_init 83 = .ok (.putfield 44, 3) := by decide +kernel
theorem dX12_init_86 : decode cX12_init 86 = .ok (.aload_n 0, 1) := by decide +kernel
theorem dX12_init_87 : decode cX12_init 87 = .ok (.sipush 300, 3) := by decide +kernel
theorem dX12_init_90 : decode cX12_init 90 = .ok (.putfield 47, 3) := by decide +kernel
theorem dX12_init_93 : decode cX12_init 93 = .ok (.aload_n 0, 1) := by decide +kernel
theorem dX12_init_94 : decode cX12_init 94 = .ok (.bipush 100, 2) := by decide +kernel
theorem dX12_init_96 : decode cX12_init 96 = .ok (.putfield 50, 3) := by decide +kernel
theorem dX12_init_99 : decode cX12_init 99 = .ok (.aload_n 0, 1) := by decide +kernel
theorem dX12_init_100 : decode cX12_init 100 = .ok (.bipush 121, 2) := by decide +kernel
theorem dX12_init_102 : decode cX12_init 102 = .ok (.newarray .int, 2) := by decide +kernel
theorem dX12_init_104 : decode cX12_init 104 = .ok (.dup, 1) := by decide +kernel
theorem dX12_init_105 : decode cX12_init 105 = .ok (.iconst 0, 1) := by decide +kernel
theorem dX12_init_106 : decode cX12_init 106 = .ok (.bipush 115, 2) := by decide +kernel
theorem dX12_init_108 : decode cX12_init 108 = .ok (.iastore, 1) := by decide +kernel
theorem dX12_init_109 : decode cX12_init 109 = .ok (.dup, 1) := by decide +kernel
theorem dX12_init_110 : decode cX12_init 110 = .ok (.iconst 1, 1) := by decide +kernel
theorem dX12_init_111 : decode cX12_init 111 = .ok (.bipush 97, 2) := by decide +kernel
theorem dX12_init_113 : decode cX12_init 113 = .ok (.iastore, 1) := by decide +kernel
theorem dX12_init_114 : decode cX12_init 114 = .ok (.dup, 1) := by decide +kernel
theorem dX12_init_115 : decode cX12_init 115 = .ok (.iconst 2, 1) := by decide +kernel
theorem dX12_init_116 : decode cX12_init 116 = .ok (.bipush 110, 2) := by decide +kernel
theorem dX12_init_118 : decode cX12_init 118 = .ok (.iastore, 1) := by decide +kernel
theorem dX12_init_119 : decode cX12_init 119 = .ok (.dup, 1) := by decide +kernel
theorem dX12_init_120 : decode cX12_init 120 = .ok (.iconst 3, 1) := by decide +kernel
theorem dX12_init_121 : decode cX12_init 121 = .ok (.bipush 100, 2) := by decide +kernel
theorem dX12_init_123 : decode cX12_init 123 = .ok (.iastore, 1) := by decide +kernel
theorem dX12_init_124 : decode cX12_init 124 = .ok (.dup, 1) := by decide +kernel
theorem dX12_init_125 : decode cX12_init 125 = .ok (.iconst 4, 1) := by decide +kernel
theorem dX12_init_126 : decode cX12_init 126 = .ok (.bipush 32, 2) := by decide +kernel
theorem dX12_init_128 : decode cX12_init 128 = .ok (.iastore, 1) := by decide +kernel
theorem dX12_init_129 : decode cX12_init 129 = .ok (.dup, 1) := by decide +kernel
theorem dX12_init_130 : decode cX12_init 130 = .ok (.iconst 5, 1) := by decide +kernel
theorem dX12_init_131 : decode cX12_init 131 = .ok (.bipush 115, 2) := by decide +kernel
theorem dX12_init_133 : decode cX12_init 133 = .ok (.iastore, 1) := by decide +kernel
theorem dX12_init_134 : decode cX12_init 134 = .ok (.dup, 1) := by decide +kernel
theorem dX12_init_135 : decode cX12_init 135 = .ok (.bipush 6, 2) := by decide +kernel
theorem dX12_init_137 : decode cX12_init 137 = .ok (.bipush 105, 2) := by decide +kernel
theorem dX12_init_139 : decode cX12_init 139 = .ok (.iastore, 1) := by decide +kernel
theorem dX12_init_140 : decode cX12_init 140 = .ok (.dup, 1) := by decide +kernel
theorem dX12_init_141 : decode cX12_init 141 = .ok (.bipush 7, 2) := by decide +kernel
theorem dX12_init_143 : decode cX12_init 143 = .ok (.bipush 108, 2) := by decide +kernel
theorem dX12_init_145 : decode cX12_init 145 = .ok (.iastore, 1) := by decide +kernel
theorem dX12_init_146 : decode cX12_init 146 = .ok (.dup, 1) := by decide +kernel
theorem dX12_init_147 : decode cX12_init 147 = .ok (.bipush 8, 2) := by decide +kernel
theorem dX12_init_149 : decode cX12_init 149 = .ok (.bipush 116, 2) := by decide +kernel
theorem dX12_init_151 : decode cX12_init 151 = .ok (.iastore, 1) := by decide +kernel
theorem dX12_init_152 : decode cX12_init 152 = .ok (.dup, 1) := by decide +kernel
theorem dX12_init_153 : decode cX12_init 153 = .ok (.bipush 9, 2) := by decide +kernel
theorem dX12_init_155 : decode cX12_init 155 = .ok (.bipush 32, 2) := by decide +kernel
theorem dX12_init_157 : decode cX12_init 157 = .ok (.iastore, 1) := by decide +kernel
theorem dX12_init_158 : decode cX12_init 158 = .ok (.dup, 1) := by decide +kernel
theorem dX12_init_159 : decode cX12_init 159 = .ok (.bipush 10, 2) := by decide +kernel
theorem dX12_init_161 : decode cX12_init 161 = .ok (.bipush 108, 2) := by decide +kernel
theorem dX12_init_163 : decode cX12_init 163 = .ok (.iastore, 1) := by decide +kernel
theorem dX12_init_164 : decode cX12_init 164 = .ok (.dup, 1) := by decide +kernel
theorem dX12_init_165 : decode cX12_init 165 = .ok (.bipush 11, 2) := by decide +kernel
theorem dX12_init_167 : decode cX12_init 167 = .ok (.bipush 111, 2) := by decide +kernel
theorem dX12_init_169 : decode cX12_init 169 = .ok (.iastore, 1) := by decide +kernel
theorem dX12_init_170 : decode cX12_init 170 = .ok (.dup, 1) := by decide +kernel
theorem dX12_init_171 : decode cX12_init 171 = .ok (.bipush 12, 2) := by decide +kernel
theorem dX12_init_173 : decode cX12_init 173 = .ok (.bipush 97, 2) := by decide +kernel
theorem dX12_init_175 : decode cX12_init 175 = .ok (.iastore, 1) := by decide +kernel
theorem dX12_init_176 : decode cX12_init 176 = .ok (.dup, 1) := by decide +kernel
theorem dX12_init_177 : decode cX12_init 177 = .ok (.bipush 13, 2) := by decide +kernel
theorem dX12_init_179 : decode cX12_init 179 = .ok (.bipush 109, 2) := by decide +kernel
theorem dX12_init_181 : decode cX12_init 181 = .ok (.iastore, 1) := by decide +kernel
theorem dX12_init_182 : decode cX12_init 182 = .ok (.dup, 1) := by decide +kernel
theorem dX12_init_183 : decode cX12_init 183 = .ok (.bipush 14, 2) := by decide +kernel
theorem dX12_init_185 : decode cX12_init 185 = .ok (.bipush 32, 2) := by decide +kernel
theorem dX12_init_187 : decode cX12_init 187 = .ok (.iastore, 1) := by decide +kernel
theorem dX12_init_188 : decode cX12_init 188 = .ok (.dup, 1) := by decide +kernel
theorem dX12_init_189 : decode cX12_init 189 = .ok (.bipush 15, 2) := by decide +kernel
theorem dX12_init_191 : decode cX12_init 191 = .ok (.bipush 99, 2) := by decide +kernel
theorem dX12_init_193 : decode cX12_init 193 = .ok (.iastore, 1) := by decide +kernel
theorem dX12_init_194 : decode cX12_init 194 = .ok (.dup, 1) := by decide +kernel
theorem dX12_init_195 : decode cX12_init 195 = .ok (.bipush 16, 2) := by decide +kernel
theorem dX12_init_197 : decode cX12_init 197 = .ok (.bipush 108, 2) := by decide +kernel
theorem dX12_init_199 : decode cX12_init 199 = .ok (.iastore, 1) := by decide +kernel
theorem dX12_init_200 : decode cX12_init 200 = .ok (.dup, 1) := by decide +kernel
theorem dX12_init_201 : decode cX12_init 201 = .ok (.bipush 17, 2) := by decide +kernel
theorem dX12_init_203 : decode cX12_init 203 = .ok (.bipush 97, 2) := by decide +kernel
theorem dX12_init_205 : decode cX12_init 205 = .ok (.iastore, 1) := by decide +kernel
theorem dX12_init_206 : decode cX12_init 206 = .ok (.dup, 1) := by decide +kernel
theorem dX12_init_207 : decode cX12_init 207 = .ok (.bipush 18, 2) := by decide +kernel
theorem dX12_init_209 : decode cX12_init 209 = .ok (.bipush 121, 2) := by decide +kernel
theorem dX12_init_211 : decode cX12_init 211 = .ok (.iastore, 1) := by decide +kernel
theorem dX12_init_212 : decode cX12_init 212 = .ok (.dup, 1) := by decide +kernel
theorem dX12_init_213 : decode cX12_init 213 = .ok (.bipush 19, 2) := by decide +kernel
theorem dX12_init_215 : decode cX12_init 215 = .ok (.bipush 32, 2) := by decide +kernel
theorem dX12_init_217 : decode cX12_init 217 = .ok (.iastore, 1) := by decide +kernel
theorem dX12_init_218 : decode cX12_init 218 = .ok (.dup, 1) := by decide +kernel
theorem dX12_init_219 : decode cX12_init 219 = .ok (.bipush 20, 2) := by decide +kernel
theorem dX12_init_221 : decode cX12_init 221 = .ok (.bipush 112, 2) := by decide +kernel
theorem dX12_init_223 : decode cX12_init 223 = .ok (.iastore, 1) := by decide +kernel
theorem dX12_init_224 : decode cX12_init 224 = .ok (.dup, 1) := by decide +kernel
theorem dX12_init_225 : decode cX12_init 225 = .ok (.bipush 21, 2) := by decide +kernel
theorem dX12_init_227 : decode cX12_init 227 = .ok (.bipush 101, 2) := by decide +kernel
theorem dX12_init_229 : decode cX12_init 229 = .ok (.iastore, 1) := by decide +kernel
theorem dX12_init_230 : decode cX12_init 230 = .ok (.dup, 1) := by decide +kernel
theorem dX12_init_231 : decode cX12_init 231 = .ok (.bipush 22, 2) := by decide +kernel
theorem dX12_init_233 : decode cX12_init 233 = .ok (.bipush 97, 2) := by decide +kernel
theorem dX12_init_235 : decode cX12_init 235 = .ok (.iastore, 1) := by decide +kernel
theorem dX12_init_236 : decode cX12_init 236 = .ok (.dup, 1) := by decide +kernel
theorem dX12_init_237 : decode cX12_init 237 = .ok (.bipush 23, 2) := by decide +kernel
theorem dX12_init_239 : decode cX12_init 239 = .ok (.bipush 116, 2) := by decide +kernel
theorem dX12_init_241 : decode cX12_init 241 = .ok (.iastore, 1) := by decide +kernel
theorem dX12_init_242 : decode cX12_init 242 = .ok (.dup, 1) := by decide +kernel
theorem dX12_init_243 : decode cX12_init 243 = .ok (.bipush 24, 2) := by decide +kernel
theorem dX12_init_245 : decode cX12_init 245 = .ok (.bipush 32, 2) := by decide +kernel
theorem dX12_init_247 : decode cX12_init 247 = .ok (.iastore, 1) := by decide +kernel
theorem dX12_init_248 : decode cX12_init 248 = .ok (.dup, 1) := by decide +kernel
theorem dX12_init_249 : decode cX12_init 249 = .ok (.bipush 25, 2) := by decide +kernel
theorem dX12_init_251 : decode cX12_init 251 = .ok (.bipush 99, 2) := by decide +kernel
theorem dX12_init_253 : decode cX12_init 253 = .ok (.iastore, 1) := by decide +kernel
theorem dX12_init_254 : decode cX12_init 254 = .ok (.dup, 1) := by decide +kernel
theorem dX12_init_255 : decode cX12_init 255 = .ok (.bipush 26, 2) := by decide +kernel
theorem dX12_init_257 : decode cX12_init 257 = .ok (.bipush 104, 2) := by decide +kernel
theorem dX12_init_259 : decode cX12_init 259 = .ok (.iastore, 1) := by decide +kernel
theorem dX12_init_260 : decode cX12_init 260 = .ok (.dup, 1) := by decide +kernel
theorem dX12_init_261 : decode cX12_init 261 = .ok (.bipush 27, 2) := by decide +kernel
theorem dX12_init_263 : decode cX12_init 263 = .ok (.bipush 97, 2) := by decide +kernel
theorem dX12_init_265 : decode cX12_init 265 = .ok (.iastore, 1) := by decide +kernel
theorem dX12_init_266 : decode cX12_init 266 = .ok (.dup, 1) := by decide +kernel
theorem dX12_init_267 : decode cX12_init 267 = .ok (.bipush 28, 2) := by decide +kernel
theorem dX12_init_269 : decode cX12_init 269 = .ok (.bipush 108, 2) := by decide +kernel
theorem dX12_init_271 : decode cX12_init 271 = .ok (.iastore, 1) := by decide +kernel
theorem dX12_init_272 : decode cX12_init 272 = .ok (.dup, 1) := by decide +kernel
theorem dX12_init_273 : decode cX12_init 273 = .ok (.bipush 29, 2) := by decide +kernel
theorem dX12_init_275 : decode cX12_init 275 = .ok (.bipush 107, 2) := by decide +kernel
theorem dX12_init_277 : decode cX12_init 277 = .ok (.iastore, 1) := by decide +kernel
theorem dX12_init_278 : decode cX12_init 278 = .ok (.dup, 1) := by decide +kernel
theorem dX12_init_279 : decode cX12_init 279 = .ok (.bipush 30, 2) := by decide +kernel
theorem dX12_init_281 : decode cX12_init 281 = .ok (.bipush 32, 2) := by decide +kernel
theorem dX12_init_283 : decode cX12_init 283 = .ok (.iastore, 1) := by decide +kernel
theorem dX12_init_284 : decode cX12_init 284 = .ok (.dup, 1) := by decide +kernel
theorem dX12_init_285 : decode cX12_init 285 = .ok (.bipush 31, 2) := by decide +kernel
theorem dX12_init_287 : decode cX12_init 287 = .ok (.bipush 98, 2) := by decide +kernel
theorem dX12_init_289 : decode cX12_init 289 = .ok (.iastore, 1) := by decide +kernel
theorem dX12_init_290 : decode cX12_init 290 = .ok (.dup, 1) := by decide +kernel
theorem dX12_init_291 : decode cX12_init 291 = .ok (.bipush 32, 2) := by decide +kernel
theorem dX12_init_293 : decode cX12_init 293 = .ok (.bipush 108, 2) := by decide +kernel
theorem dX12_init_295 : decode cX12_init 295 = .ok (.iastore, 1) := by decide +kernel
theorem dX12_init_296 : decode cX12_init 296 = .ok (.dup, 1) := by decide +kernel
theorem dX12_init_297 : decode cX12_init 297 = .ok (.bipush 33, 2) := by decide +kernel
theorem dX12_init_299 : decode cX12_init 299 = .ok (.bipush 97, 2) := by decide +kernel
theorem dX12_init_301 : decode cX12_init 301 = .ok (.iastore, 1) := by decide +kernel
theorem dX12_init_302 : decode cX12_init 302 = .ok (.dup, 1) := by decide +kernel
theorem dX12_init_303 : decode cX12_init 303 = .ok (.bipush 34, 2) := by decide +kernel
theorem dX12_init_305 : decode cX12_init 305 = .ok (.bipush 99, 2) := by decide +kernel
theorem dX12_init_307 : decode cX12_init 307 = .ok (.iastore, 1) := by decide +kernel
theorem dX12_init_308 : decode cX12_init 308 = .ok (.dup, 1) := by decide +kernel
theorem dX12_init_309 : decode cX12_init 309 = .ok (.bipush 35, 2) := by decide +kernel
theorem dX12_init_311 : decode cX12_init 311 = .ok (.bipush 107, 2) := by decide +kernel
theorem dX12_init_313 : decode cX12_init 313 = .ok (.iastore, 1) := by decide +kernel
theorem dX12_init_314 : decode cX12_init 314 = .ok (.dup, 1) := by decide +kernel
theorem dX12_init_315 : decode cX12_init 315 = .ok (.bipush 36, 2) := by decide +kernel
theorem dX12_init_317 : decode cX12_init 317 = .ok (.bipush 32, 2) := by decide +kernel
theorem dX12_init_319 : decode cX12_init 319 = .ok (.iastore, 1) := by decide +kernel
theorem dX12_init_320 : decode cX12_init 320 = .ok (.dup, 1) := by decide +kernel
theorem dX12_init_321 : decode cX12_init 321 = .ok (.bipush 37, 2) := by decide +kernel
theorem dX12_init_323 : decode cX12_init 323 = .ok (.bipush 98, 2) := by decide +kernel
theorem dX12_init_325 : decode cX12_init 325 = .ok (.iastore, 1) := by decide +kernel
theorem dX12_init_326 : decode cX12_init 326 = .ok (.dup, 1) := by decide +kernel
theorem dX12_init_327 : decode cX12_init 327 = .ok (.bipush 38, 2) := by decide +kernel
theorem dX12_init_329 : decode cX12_init 329 = .ok (.bipush 114, 2) := by decide +kernel
theorem dX12_init_331 : decode cX12_init 331 = .ok (.iastore, 1) := by decide +kernel
theorem dX12_init_332 : decode cX12_init 332 = .ok (.dup, 1) := by decide +kernel
theorem dX12_init_333 : decode cX12_init 333 = .ok (.bipush 39, 2) := by decide +kernel
theorem dX12_init_335 : decode cX12_init 335 = .ok (.bipush 111, 2) := by decide +kernel
theorem dX12_init_337 : decode cX12_init 337 = .ok (.iastore, 1) := by decide +kernel
theorem dX12_init_338 : decode cX12_init 338 = .ok (.dup, 1) := by decide +kernel
theorem dX12_init_339 : decode cX12_init 339 = .ok (.bipush 40, 2) := by decide +kernel
theorem dX12_init_341 : decode cX12_init 341 = .ok (.bipush 119, 2) := by decide +kernel
theorem dX12_init_343 : decode cX12_init 343 = .ok (.iastore, 1) := by decide +kernel
theorem dX12_init_344 : decode cX12_init 344 = .ok (.dup, 1) := by decide +kernel
theorem dX12_init_345 : decode cX12_init 345 = .ok (.bipush 41, 2) := by decide +kernel
theorem dX12_init_347 : decode cX12_init 347 = .ok (.bipush 110, 2) := by decide +kernel
theorem dX12_init_349 : decode cX12_init 349 = .ok (.iastore, 1) := by decide +kernel
theorem dX12_init_350 : decode cX12_init 350 = .ok (.dup, 1) := by decide +kernel
theorem dX12_init_351 : decode cX12_init 351 = .ok (.bipush 42, 2) := by decide +kernel
theorem dX12_init_353 : decode cX12_init 353 = .ok (.bipush 32, 2) := by decide +kernel
theorem dX12_init_355 : decode cX12_init 355 = .ok (.iastore, 1) := by decide +kernel
theorem dX12_init_356 : decode cX12_init 356 = .ok (.dup, 1) := by decide +kernel
theorem dX12_init_357 : decode cX12_init 357 = .ok (.bipush 43, 2) := by decide +kernel
theorem dX12_init_359 : decode cX12_init 359 = .ok (.bipush 114, 2) := by decide +kernel
theorem dX12_init_361 : decode cX12_init 361 = .ok (.iastore, 1) := by decide +kernel
theorem dX12_init_362 : decode cX12_init 362 = .ok (.dup, 1) := by decide +kernel
theorem dX12_init_363 : decode cX12_init 363 = .ok (.bipush 44, 2) := by decide +kernel
theorem dX12_init_365 : decode cX12_init 365 = .ok (.bipush 101, 2) := by decide +kernel
theorem dX12_init_367 : decode cX12_init 367 = .ok (.iastore, 1) := by decide +kernel
theorem dX12_init_368 : decode cX12_init 368 = .ok (.dup, 1) := by decide +kernel
theorem dX12_init_369 : decode cX12_init 369 = .ok (.bipush 45, 2) := by decide +kernel
theorem dX12_init_371 : decode cX12_init 371 = .ok (.bipush 100, 2) := by decide +kernel
theorem dX12_init_373 : decode cX12_init 373 = .ok (.iastore, 1) := by decide +kernel
theorem dX12_init_374 : decode cX12_init 374 = .ok (.dup, 1) := by decide +kernel
theorem dX12_init_375 : decode cX12_init 375 = .ok (.bipush 46, 2) := by decide +kernel
theorem dX12_init_377 : decode cX12_init 377 = .ok (.bipush 32, 2) := by decide +kernel
theorem dX12_init_379 : decode cX12_init 379 = .ok (.iastore, 1) := by decide +kernel
theorem dX12_init_380 : decode cX12_init 380 = .ok (.dup, 1) := by decide +kernel
theorem dX12_init_381 : decode cX12_init 381 = .ok (.bipush 47, 2) := by decide +kernel
theorem dX12_init_383 : decode cX12_init 383 = .ok (.bipush 103, 2) := by decide +kernel
theorem dX12_init_385 : decode cX12_init 385 = .ok (.iastore, 1) := by decide +kernel
theorem dX12_init_386 : decode cX12_init 386 = .ok (.dup, 1) := by decide +kernel
theorem dX12_init_387 : decode cX12_init 387 = .ok (.bipush 48, 2) := by decide +kernel
theorem dX12_init_389 : decode cX12_init 389 = .ok (.bipush 114, 2) := by decide +kernel
theorem dX12_init_391 : decode cX12_init 391 = .ok (.iastore, 1) := by decide +kernel
theorem dX12_init_392 : decode cX12_init 392 = .ok (.dup, 1) := by decide +kernel
theorem dX12_init_393 : decode cX12_init 393 = .ok (.bipush 49, 2) := by decide +kernel
theorem dX12_init_395 : decode cX12_init 395 = .ok (.bipush 101, 2) := by decide +kernel
theorem dX12_init_397 : decode cX12_init 397 = .ok (.iastore, 1) := by decide +kernel
theorem dX12_init_398 : decode cX12_init 398 = .ok (.dup, 1) := by decide +kernel
theorem dX12_init_399 : decode cX12_init 399 = .ok (.bipush 50, 2) := by decide +kernel
theorem dX12_init_401 : decode cX12_init 401 = .ok (.bipush 121, 2) := by decide +kernel
theorem dX12_init_403 : decode cX12_init 403 = .ok (.iastore, 1) := by decide +kernel
theorem dX12_init_404 : decode cX12_init 404 = .ok (.dup, 1) := by decide +kernel
theorem dX12_init_405 : decode cX12_init 405 = .ok (.bipush 51, 2) := by decide +kernel
theorem dX12_init_407 : decode cX12_init 407 = .ok (.bipush 32, 2) := by decide +kernel
theorem dX12_init_409 : decode cX12_init 409 = .ok (.iastore, 1) := by decide +kernel
theorem dX12_init_410 : decode cX12_init 410 = .ok (.dup, 1) := by decide +kernel
theorem dX12_init_411 : decode cX12_init 411 = .ok (.bipush 52, 2) := by decide +kernel
theorem dX12_init_413 : decode cX12_init 413 = .ok (.bipush 119, 2) := by decide +kernel
theorem dX12_init_415 : decode cX12_init 415 = .ok (.iastore, 1) := by decide +kernel
theorem dX12_init_416 : decode cX12_init 416 = .ok (.dup, 1) := by decide +kernel
theorem dX12_init_417 : decode cX12_init 417 = .ok (.bipush 53, 2) := by decide +kernel
theorem dX12_init_419 : decode cX12_init 419 = .ok (.bipush 104, 2) := by decide +kernel
theorem dX12_init_421 : decode cX12_init 421 = .ok (.iastore, 1) := by decide +kernel
theorem dX12_init_422 : decode cX12_init 422 = .ok (.dup, 1) := by decide +kernel
theorem dX12_init_423 : decode cX12_init 423 = .ok (.bipush 54, 2) := by decide +kernel
theorem dX12_init_425 : decode cX12_init 425 = .ok (.bipush 105, 2) := by decide +kernel
theorem dX12_init_427 : decode cX12_init 427 = .ok (.iastore, 1) := by decide +kernel
theorem dX12_init_428 : decode cX12_init 428 = .ok (.dup, 1) := by decide +kernel
theorem dX12_init_429 : decode cX12_init 429 = .ok (.bipush 55, 2) := by decide +kernel
theorem dX12_init_431 : decode cX12_init 431 = .ok (.bipush 116, 2) := by decide +kernel
theorem dX12_init_433 : decode cX12_init 433 = .ok (.iastore, 1) := by decide +kernel
theorem dX12_init_434 : decode cX12_init 434 = .ok (.dup, 1) := by decide +kernel
theorem dX12_init_435 : decode cX12_init 435 = .ok (.bipush 56, 2) := by decide +kernel
theorem dX12_init_437 : decode cX12_init 437 = .ok (.bipush 101, 2) := by decide +kernel
theorem dX12_init_439 : decode cX12_init 439 = .ok (.iastore, 1) := by decide +kernel
theorem dX12_init_440 : decode cX12_init 440 = .ok (.dup, 1) := by decide +kernel
theorem dX12_init_441 : decode cX12_init 441 = .ok (.bipush 57, 2) := by decide +kernel
theorem dX12_init_443 : decode cX12_init 443 = .ok (.bipush 32, 2) := by decide +kernel
theorem dX12_init_445 : decode cX12_init 445 = .ok (.iastore, 1) := by decide +kernel
theorem dX12_init_446 : decode cX12_init 446 = .ok (.dup, 1) := by decide +kernel
theorem dX12_init_447 : decode cX12_init 447 = .ok (.bipush 58, 2) := by decide +kernel
theorem dX12_init_449 : decode cX12_init 449 = .ok (.bipush 109, 2) := by decide +kernel
theorem dX12_init_451 : decode cX12_init 451 = .ok (.iastore, 1) := by decide +kernel
theorem dX12_init_452 : decode cX12_init 452 = .ok (.dup, 1) := by decide +kernel
theorem dX12_init_453 : decode cX12_init 453 = .ok (.bipush 59, 2) := by decide +kernel
theorem dX12_init_455 : decode cX12_init 455 = .ok (.bipush 111, 2) := by decide +kernel
theorem dX12_init_457 : decode cX12_init 457 = .ok (.iastore, 1) := by decide +kernel
theorem dX12_init_458 : decode cX12_init 458 = .ok (.dup, 1) := by decide +kernel
theorem dX12_init_459 : decode cX12_init 459 = .ok (.bipush 60, 2) := by decide +kernel
theorem dX12_init_461 : decode cX12_init 461 = .ok (.bipush 116, 2) := by decide +kernel
theorem dX12_init_463 : decode cX12_init 463 = .ok (.iastore, 1) := by decide +kernel
theorem dX12_init_464 : decode cX12_init 464 = .ok (.dup, 1) := by decide +kernel
theorem dX12_init_465 : decode cX12_init 465 = .ok (.bipush 61, 2) := by decide +kernel
theorem dX12_init_467 : decode cX12_init 467 = .ok (.bipush 116, 2) := by decide +kernel
theorem dX12_init_469 : decode cX12_init 469 = .ok (.iastore, 1) := by decide +kernel
theorem dX12_init_470 : decode cX12_init 470 = .ok (.dup, 1) := by decide +kernel
theorem dX12_init_471 : decode cX12_init 471 = .ok (.bipush 62, 2) := by decide +kernel
theorem dX12_init_473 : decode cX12_init 473 = .ok (.bipush 108, 2) := by decide +kernel
theorem dX12_init_475 : decode cX12_init 475 = .ok (.iastore, 1) := by decide +kernel
theorem dX12_init_476 : decode cX12_init 476 = .ok (.dup, 1) := by decide +kernel
theorem dX12_init_477 : decode cX12_init 477 = .ok (.bipush 63, 2) := by decide +kernel
theorem dX12_init_479 : decode cX12_init 479 = .ok (.bipush 101, 2) := by decide +kernel
theorem dX12_init_481 : decode cX12_init 481 = .ok (.iastore, 1) := by decide +kernel
theorem dX12_init_482 : decode cX12_init 482 = .ok (.dup, 1) := by decide +kernel
theorem dX12_init_483 : decode cX12_init 483 = .ok (.bipush 64, 2) := by decide +kernel
theorem dX12_init_485 : decode cX12_init 485 = .ok (.bipush 100, 2) := by decide +kernel
theorem dX12_init_487 : decode cX12_init 487 = .ok (.iastore, 1) := by decide +kernel
theorem dX12_init_488 : decode cX12_init 488 = .ok (.dup, 1) := by decide +kernel
theorem dX12_init_489 : decode cX12_init 489 = .ok (.bipush 65, 2) := by decide +kernel
theorem dX12_init_491 : decode cX12_init 491 = .ok (.bipush 32, 2) := by decide +kernel
theorem dX12_init_493 : decode cX12_init 493 = .ok (.iastore, 1) := by decide +kernel
theorem dX12_init_494 : decode cX12_init 494 = .ok (.dup, 1) := by decide +kernel
theorem dX12_init_495 : decode cX12_init 495 = .ok (.bipush 66, 2) := by decide +kernel
theorem dX12_init_497 : decode cX12_init 497 = .ok (.bipush 115, 2) := by decide +kernel
theorem dX12_init_499 : decode cX12_init 499 = .ok (.iastore, 1) := by decide +kernel
theorem dX12_init_500 : decode cX12_init 500 = .ok (.dup, 1) := by decide +kernel
theorem dX12_init_501 : decode cX12_init 501 = .ok (.bipush 67, 2) := by decide +kernel
theorem dX12_init_503 : decode cX12_init 503 = .ok (.bipush 116, 2) := by decide +kernel
theorem dX12_init_505 : decode cX12_init 505 = .ok (.iastore, 1) := by decide +kernel
theorem dX12_init_506 : decode cX12_init 506 = .ok (.dup, 1) := by decide +kernel
theorem dX12_init_507 : decode cX12_init 507 = .ok (.bipush 68, 2) := by decide +kernel
theorem dX12_init_509 : decode cX12_init 509 = .ok (.bipush 111, 2) := by decide +kernel
theorem dX12_init_511 : decode cX12_init 511 = .ok (.iastore, 1) := by decide +kernel
theorem dX12_init_512 : decode cX12_init 512 = .ok (.dup, 1) := by decide +kernel
theorem dX12_init_513 : decode cX12_init 513 = .ok (.bipush 69, 2) := by decide +kernel
theorem dX12_init_515 : decode cX12_init 515 = .ok (.bipush 110, 2) := by decide +kernel
theorem dX12_init_517 : decode cX12_init 517 = .ok (.iastore, 1) := by decide +kernel
theorem dX12_init_518 : decode cX12_init 518 = .ok (.dup, 1) := by decide +kernel
theorem dX12_init_519 : decode cX12_init 519 = .ok (.bipush 70, 2) := by decide +kernel
theorem dX12_init_521 : decode cX12_init 521 = .ok (.bipush 101, 2) := by decide +kernel
theorem dX12_init_523 : decode cX12_init 523 = .ok (.iastore, 1) := by decide +kernel
theorem dX12_init_524 : decode cX12_init 524 = .ok (.dup, 1) := by decide +kernel
theorem dX12_init_525 : decode cX12_init 525 = .ok (.bipush 71, 2) := by decide +kernel
theorem dX12_init_527 : decode cX12_init 527 = .ok (.bipush 115, 2) := by decide +kernel
theorem dX12_init_529 : decode cX12_init 529 = .ok (.iastore, 1) := by decide +kernel
theorem dX12_init_530 : decode cX12_init 530 = .ok (.dup, 1) := by decide +kernel
theorem dX12_init_531 : decode cX12_init 531 = .ok (.bipush 72, 2) := by decide +kernel
theorem dX12_init_533 : decode cX12_init 533 = .ok (.bipush 32, 2) := by decide +kernel
theorem dX12_init_535 : decode cX12_init 535 = .ok (.iastore, 1) := by decide +kernel
theorem dX12_init_536 : decode cX12_init 536 = .ok (.dup, 1) := by decide +kernel
theorem dX12_init_537 : decode cX12_init 537 = .ok (.bipush 73, 2) := by decide +kernel
theorem dX12_init_539 : decode cX12_init 539 = .ok (.bipush 111, 2) := by decide +kernel
theorem dX12_init_541 : decode cX12_init 541 = .ok (.iastore, 1) := by decide +kernel
theorem dX12_init_542 : decode cX12_init 542 = .ok (.dup, 1) := by decide +kernel
theorem dX12_init_543 : decode cX12_init 543 = .ok (.bipush 74, 2) := by decide +kernel
theorem dX12_init_545 : decode cX12_init 545 = .ok (.bipush 114, 2) := by decide +kernel
theorem dX12_init_547 : decode cX12_init 547 = .ok (.iastore, 1) := by decide +kernel
theorem dX12_init_548 : decode cX12_init 548 = .ok (.dup, 1) := by decide +kernel
theorem dX12_init_549 : decode cX12_init 549 = .ok (.bipush 75, 2) := by decide +kernel
theorem dX12_init_551 : decode cX12_init 551 = .ok (.bipush 32, 2) := by decide +kernel
theorem dX12_init_553 : decode cX12_init 553 = .ok (.iastore, 1) := by decide +kernel
theorem dX12_init_554 : decode cX12_init 554 = .ok (.dup, 1) := by decide +kernel
theorem dX12_init_555 : decode cX12_init 555 = .ok (.bipush 76, 2) := by decide +kernel
theorem dX12_init_557 : decode cX12_init 557 = .ok (.bipush 97, 2) := by decide +kernel
theorem dX12_init_559 : decode cX12_init 559 = .ok (.iastore, 1) := by decide +kernel
theorem dX12_init_560 : decode cX12_init 560 = .ok (.dup, 1) := by decide +kernel
theorem dX12_init_561 : decode cX12_init 561 = .ok (.bipush 77, 2) := by decide +kernel
theorem dX12_init_563 : decode cX12_init 563 = .ok (.bipush 110, 2) := by decide +kernel
theorem dX12_init_565 : decode cX12_init 565 = .ok (.iastore, 1) := by decide +kernel
theorem dX12_init_566 : decode cX12_init 566 = .ok (.dup, 1) := by decide +kernel
theorem dX12_init_567 : decode cX12_init 567 = .ok (.bipush 78, 2) := by decide +kernel
theorem dX12_init_569 : decode cX12_init 569 = .ok (.bipush 100, 2) := by decide +kernel
theorem dX12_init_571 : decode cX12_init 571 = .ok (.iastore, 1) := by decide +kernel
theorem dX12_init_572 : decode cX12_init 572 = .ok (.dup, 1) := by decide +kernel
theorem dX12_init_573 : decode cX12_init 573 = .ok (.bipush 79, 2) := by decide +kernel
theorem dX12_init_575 : decode cX12_init 575 = .ok (.bipush 32, 2) := by decide +kernel
theorem dX12_init_577 : decode cX12_init 577 = .ok (.iastore, 1) := by decide +kernel
theorem dX12_init_578 : decode cX12_init 578 = .ok (.dup, 1) := by decide +kernel
theorem dX12_init_579 : decode cX12_init 579 = .ok (.bipush 80, 2) := by decide +kernel
theorem dX12_init_581 : decode cX12_init 581 = .ok (.bipush 110, 2) := by decide +kernel
theorem dX12_init_583 : decode cX12_init 583 = .ok (.iastore, 1) := by decide +kernel
theorem dX12_init_584 : decode cX12_init 584 = .ok (.dup, 1) := by decide +kernel
theorem dX12_init_585 : decode cX12_init 585 = .ok (.bipush 81, 2) := by decide +kernel
theorem dX12_init_587 : decode cX12_init 587 = .ok (.bipush 111, 2) := by decide +kernel
theorem dX12_init_589 : decode cX12_init 589 = .ok (.iastore, 1) := by decide +kernel
theorem dX12_init_590 : decode cX12_init 590 = .ok (.dup, 1) := by decide +kernel
theorem dX12_init_591 : decode cX12_init 591 = .ok (.bipush 82, 2) := by decide +kernel
theorem dX12_init_593 : decode cX12_init 593 = .ok (.bipush 116, 2) := by decide +kernel
theorem dX12_init_595 : decode cX12_init 595 = .ok (.iastore, 1) := by decide +kernel
theorem dX12_init_596 : decode cX12_init 596 = .ok (.dup, 1) := by decide +kernel
theorem dX12_init_597 : decode cX12_init 597 = .ok (.bipush 83, 2) := by decide +kernel
theorem dX12_init_599 : decode cX12_init 599 = .ok (.bipush 32, 2) := by decide +kernel
theorem dX12_init_601 : decode cX12_init 601 = .ok (.iastore, 1) := by decide +kernel
theorem dX12_init_602 : decode cX12_init 602 = .ok (.dup, 1) := by decide +kernel
theorem dX12_init_603 : decode cX12_init 603 = .ok (.bipush 84, 2) := by decide +kernel
theorem dX12_init_605 : decode cX12_init 605 = .ok (.bipush 97, 2) := by decide +kernel
theorem dX12_init_607 : decode cX12_init 607 = .ok (.iastore, 1) := by decide +kernel
theorem dX12_init_608 : decode cX12_init 608 = .ok (.dup, 1) := by decide +kernel
theorem dX12_init_609 : decode cX12_init 609 = .ok (.bipush 85, 2) := by decide +kernel
theorem dX12_init_611 : decode cX12_init 611 = .ok (.bipush 108, 2) := by decide +kernel
theorem dX12_init_613 : decode cX12_init 613 = .ok (.iastore, 1) := by decide +kernel
theorem dX12_init_614 : decode cX12_init 614 = .ok (.dup, 1) := by decide +kernel
theorem dX12_init_615 : decode cX12_init 615 = .ok (.bipush 86, 2) := by decide +kernel
theorem dX12_init_617 : decode cX12_init 617 = .ok (.bipush 119, 2) := by decide +kernel
theorem dX12_init_619 : decode cX12_init 619 = .ok (.iastore, 1) := by decide +kernel
theorem dX12_init_620 : decode cX12_init 620 = .ok (.dup, 1) := by decide +kernel
theorem dX12_init_621 : decode cX12_init 621 = .ok (.bipush 87, 2) := by decide +kernel
theorem dX12_init_623 : decode cX12_init 623 = .ok (.bipush 97, 2) := by decide +kernel
theorem dX12_init_625 : decode cX12_init 625 = .ok (.iastore, 1) := by decide +kernel
theorem dX12_init_626 : decode cX12_init 626 = .ok (.dup, 1) := by decide +kernel
theorem dX12_init_627 : decode cX12_init 627 = .ok (.bipush 88, 2) := by decide +kernel
theorem dX12_init_629 : decode cX12_init 629 = .ok (.bipush 121, 2) := by decide +kernel
theorem dX12_init_631 : decode cX12_init 631 = .ok (.iastore, 1) := by decide +kernel
theorem dX12_init_632 : decode cX12_init 632 = .ok (.dup, 1) := by decide +kernel
theorem dX12_init_633 : decode cX12_init 633 = .ok (.bipush 89, 2) := by decide +kernel
theorem dX12_init_635 : decode cX12_init 635 = .ok (.bipush 115, 2) := by decide +kernel
theorem dX12_init_637 : decode cX12_init 637 = .ok (.iastore, 1) := by decide +kernel
theorem dX12_init_638 : decode cX12_init 638 = .ok (.dup, 1) := by decide +kernel
theorem dX12_init_639 : decode cX12_init 639 = .ok (.bipush 90, 2) := by decide +kernel
theorem dX12_init_641 : decode cX12_init 641 = .ok (.bipush 32, 2) := by decide +kernel
theorem dX12_init_643 : decode cX12_init 643 = .ok (.iastore, 1) := by decide +kernel
theorem dX12_init_644 : decode cX12_init 644 = .ok (.dup, 1) := by decide +kernel
theorem dX12_init_645 : decode cX12_init 645 = .ok (.bipush 91, 2) := by decide +kernel
theorem dX12_init_647 : decode cX12_init 647 = .ok (.bipush 97, 2) := by decide +kernel
theorem dX12_init_649 : decode cX12_init 649 = .ok (.iastore, 1) := by decide +kernel
theorem dX12_init_650 : decode cX12_init 650 = .ok (.dup, 1) := by decide +kernel
theorem dX12_init_651 : decode cX12_init 651 = .ok (.bipush 92, 2) := by decide +kernel
theorem dX12_init_653 : decode cX12_init 653 = .ok (.bipush 110, 2) := by decide +kernel
theorem dX12_init_655 : decode cX12_init 655 = .ok (.iastore, 1) := by decide +kernel
theorem dX12_init_656 : decode cX12_init 656 = .ok (.dup, 1) := by decide +kernel
theorem dX12_init_657 : decode cX12_init 657 = .ok (.bipush 93, 2) := by decide +kernel
theorem dX12_init_659 : decode cX12_init 659 = .ok (.bipush 121, 2) := by decide +kernel
theorem dX12_init_661 : decode cX12_init 661 = .ok (.iastore, 1) := by decide +kernel
theorem dX12_init_662 : decode cX12_init 662 = .ok (.dup, 1) := by decide +kernel
theorem dX12_init_663 : decode cX12_init 663 = .ok (.bipush 94, 2) := by decide +kernel
theorem dX12_init_665 : decode cX12_init 665 = .ok (.bipush 32, 2) := by decide +kernel
theorem dX12_init_667 : decode cX12_init 667 = .ok (.iastore, 1) := by decide +kernel
theorem dX12_init_668 : decode cX12_init 668 = .ok (.dup, 1) := by decide +kernel
theorem dX12_init_669 : decode cX12_init 669 = .ok (.bipush 95, 2) := by decide +kernel
theorem dX12_init_671 : decode cX12_init 671 = .ok (.bipush 97, 2) := by decide +kernel
theorem dX12_init_673 : decode cX12_init 673 = .ok (.iastore, 1) := by decide +kernel
theorem dX12_init_674 : decode cX12_init 674 = .ok (.dup, 1) := by decide +kernel
theorem dX12_init_675 : decode cX12_init 675 = .ok (.bipush 96, 2) := by decide +kernel
theorem dX12_init_677 : decode cX12_init 677 = .ok (.bipush 108, 2) := by decide +kernel
theorem dX12_init_679 : decode cX12_init 679 = .ok (.iastore, 1) := by decide +kernel
theorem dX12_init_680 : decode cX12_init 680 = .ok (.dup, 1) := by decide +kernel
theorem dX12_init_681 : decode cX12_init 681 = .ok (.bipush 97, 2) := by decide +kernel
theorem dX12_init_683 : decode cX12_init 683 = .ok (.bipush 108, 2) := by decide +kernel
theorem dX12_init_685 : decode cX12_init 685 = .ok (.iastore, 1) := by decide +kernel
theorem dX12_init_686 : decode cX12_init 686 = .ok (.dup, 1) := by decide +kernel
theorem dX12_init_687 : decode cX12_init 687 = .ok (.bipush 98, 2) := by decide +kernel
theorem dX12_init_689 : decode cX12_init 689 = .ok (.bipush 32, 2) := by decide +kernel
theorem dX12_init_691 : decode cX12_init 691 = .ok (.iastore, 1) := by decide +kernel
theorem dX12_init_692 : decode cX12_init 692 = .ok (.dup, 1) := by decide +kernel
theorem dX12_init_693 : decode cX12_init 693 = .ok (.bipush 99, 2) := by decide +kernel
theorem dX12_init_695 : decode cX12_init 695 = .ok (.bipush 97, 2) := by decide +kernel
theorem dX12_init_697 : decode cX12_init 697 = .ok (.iastore, 1) := by decide +kernel
theorem dX12_init_698 : decode cX12_init 698 = .ok (.dup, 1) := by decide +kernel
theorem dX12_init_699 : decode cX12_init 699 = .ok (.bipush 100, 2) := by decide +kernel
theorem dX12_init_701 : decode cX12_init 701 = .ok (.bipush 116, 2) := by decide +kernel
theorem dX12_init_703 : decode cX12_init 703 = .ok (.iastore, 1) := by decide +kernel
theorem dX12_init_704 : decode cX12_init 704 = .ok (.dup, 1) := by decide +kernel
theorem dX12_init_705 : decode cX12_init 705 = .ok (.bipush 101, 2) := by decide +kernel
theorem dX12_init_707 : decode cX12_init 707 = .ok (.bipush 32, 2) := by decide +kernel
theorem dX12_init_709 : decode cX12_init 709 = .ok (.iastore, 1) := by decide +kernel
theorem dX12_init_710 : decode cX12_init 710 = .ok (.dup, 1) := by decide +kernel
theorem dX12_init_711 : decode cX12_init 711 = .ok (.bipush 102, 2) := by decide +kernel
theorem dX12_init_713 : decode cX12_init 713 = .ok (.bipush 116, 2) := by decide +kernel
theorem dX12_init_715 : decode cX12_init 715 = .ok (.iastore, 1) := by decide +kernel
theorem dX12_init_716 : decode cX12_init 716 = .ok (.dup, 1) := by decide +kernel
theorem dX12_init_717 : decode cX12_init 717 = .ok (.bipush 103, 2) := by decide +kernel
theorem dX12_init_719 : decode cX12_init 719 = .ok (.bipush 104, 2) := by decide +kernel
theorem dX12_init_721 : decode cX12_init 721 = .ok (.iastore, 1) := by decide +kernel
theorem dX12_init_722 : decode cX12_init 722 = .ok (.dup, 1) := by decide +kernel
theorem dX12_init_723 : decode cX12_init 723 = .ok (.bipush 104, 2) := by decide +kernel
theorem dX12_init_725 : decode cX12_init 725 = .ok (.bipush 105, 2) := by decide +kernel
theorem dX12_init_727 : decode cX12_init 727 = .ok (.iastore, 1) := by decide +kernel
theorem dX12_init_728 : decode cX12_init 728 = .ok (.dup, 1) := by decide +kernel
theorem dX12_init_729 : decode cX12_init 729 = .ok (.bipush 105, 2) := by decide +kernel
theorem dX12_init_731 : decode cX12_init 731 = .ok (.bipush 99, 2) := by decide +kernel
theorem dX12_init_733 : decode cX12_init 733 = .ok (.iastore, 1) := by decide +kernel
theorem dX12_init_734 : decode cX12_init 734 = .ok (.dup, 1) := by decide +kernel
theorem dX12_init_735 : decode cX12_init 735 = .ok (.bipush 106, 2) := by decide +kernel
theorem dX12_init_737 : decode cX12_init 737 = .ok (.bipush 107, 2) := by decide +kernel
theorem dX12_init_739 : decode cX12_init 739 = .ok (.iastore, 1) := by decide +kernel
theorem dX12_init_740 : decode cX12_init 740 = .ok (.dup, 1) := by decide +kernel
theorem dX12_init_741 : decode cX12_init 741 = .ok (.bipush 107, 2) := by decide +kernel
theorem dX12_init_743 : decode cX12_init 743 = .ok (.bipush 32, 2) := by decide +kernel
theorem dX12_init_745 : decode cX12_init 745 = .ok (.iastore, 1) := by decide +kernel
theorem dX12_init_746 : decode cX12_init 746 = .ok (.dup, 1) := by decide +kernel
theorem dX12_init_747 : decode cX12_init 747 = .ok (.bipush 108, 2) := by decide +kernel
theorem dX12_init_749 : decode cX12_init 749 = .ok (.bipush 102, 2) := by decide +kernel
theorem dX12_init_751 : decode cX12_init 751 = .ok (.iastore, 1) := by decide +kernel
theorem dX12_init_752 : decode cX12_init 752 = .ok (.dup, 1) := by decide +kernel
theorem dX12_init_753 : decode cX12_init 753 = .ok (.bipush 109, 2) := by decide +kernel
theorem dX12_init_755 : decode cX12_init 755 = .ok (.bipush 114, 2) := by decide +kernel
theorem dX12_init_757 : decode cX12_init 757 = .ok (.iastore, 1) := by decide +kernel
theorem dX12_init_758 : decode cX12_init 758 = .ok (.dup, 1) := by decide +kernel
theorem dX12_init_759 : decode cX12_init 759 = .ok (.bipush 110, 2) := by decide +kernel
theorem dX12_init_761 : decode cX12_init 761 = .ok (.bipush 111, 2) := by decide +kernel
theorem dX12_init_763 : decode cX12_init 763 = .ok (.iastore, 1) := by decide +kernel
theorem dX12_init_764 : decode cX12_init 764 = .ok (.dup, 1) := by decide +kernel
theorem dX12_init_765 : decode cX12_init 765 = .ok (.bipush 111, 2) := by decide +kernel
theorem dX12_init_767 : decode cX12_init 767 = .ok (.bipush 109, 2) := by decide +kernel
theorem dX12_init_769 : decode cX12_init 769 = .ok (.iastore, 1) := by decide +kernel
theorem dX12_init_770 : decode cX12_init 770 = .ok (.dup, 1) := by decide +kernel
theorem dX12_init_771 : decode cX12_init 771 = .ok (.bipush 112, 2) := by decide +kernel
theorem dX12_init_773 : decode cX12_init 773 = .ok (.bipush 32, 2) := by decide +kernel
theorem dX12_init_775 : decode cX12_init 775 = .ok (.iastore, 1) := by decide +kernel
theorem dX12_init_776 : decode cX12_init 776 = .ok (.dup, 1) := by decide +kernel
theorem dX12_init_777 : decode cX12_init 777 = .ok (.bipush 113, 2) := by decide +kernel
theorem dX12_init_779 : decode cX12_init 779 = .ok (.bipush 100, 2) := by decide +kernel
theorem dX12_init_781 : decode cX12_init 781 = .ok (.iastore, 1) := by decide +kernel
theorem dX12_init_782 : decode cX12_init 782 = .ok (.dup, 1) := by decide +kernel
theorem dX12_init_783 : decode cX12_init 783 = .ok (.bipush 114, 2) := by decide +kernel
theorem dX12_init_785 : decode cX12_init 785 = .ok (.bipush 101, 2) := by decide +kernel
theorem dX12_init_787 : decode cX12_init 787 = .ok (.iastore, 1) := by decide +kernel
theorem dX12_init_788 : decode cX12_init 788 = .ok (.dup, 1) := by decide +kernel
theorem dX12_init_789 : decode cX12_init 789 = .ok (.bipush 115, 2) := by decide +kernel
theorem dX12_init_791 : decode cX12_init 791 = .ok (.bipush 101, 2) := by decide +kernel
theorem dX12_init_793 : decode cX12_init 793 = .ok (.iastore, 1) := by decide +kernel
theorem dX12_init_794 : decode cX12_init 794 = .ok (.dup, 1) := by decide +kernel
theorem dX12_init_795 : decode cX12_init 795 = .ok (.bipush 116, 2) := by decide +kernel
theorem dX12_init_797 : decode cX12_init 797 = .ok (.bipush 112, 2) := by decide +kernel
theorem dX12_init_799 : decode cX12_init 799 = .ok (.iastore, 1) := by decide +kernel
theorem dX12_init_800 : decode cX12_init 800 = .ok (.dup, 1) := by decide +kernel
theorem dX12_init_801 : decode cX12_init 801 = .ok (.bipush 117, 2) := by decide +kernel
theorem dX12_init_803 : decode cX12_init 803 = .ok (.bipush 32, 2) := by decide +kernel
theorem dX12_init_805 : decode cX12_init 805 = .ok (.iastore, 1) := by decide +kernel
theorem dX12_init_806 : decode cX12_init 806 = .ok (.dup, 1) := by decide +kernel
theorem dX12_init_807 : decode cX12_init 807 = .ok (.bipush 118, 2) := by decide +kernel
theorem dX12_init_809 : decode cX12_init 809 = .ok (.bipush 99, 2) := by decide +kernel
theorem dX12_init_811 : decode cX12_init 811 = .ok (.iastore, 1) := by decide +kernel
theorem dX12_init_812 : decode cX12_init 812 = .ok (.dup, 1) := by decide +kernel
theorem dX12_init_813 : decode cX12_init 813 = .ok (.bipush 119, 2) := by decide +kernel
theorem dX12_init_815 : decode cX12_init 815 = .ok (.bipush 109, 2) := by decide +kernel
theorem dX12_init_817 : decode cX12_init 817 = .ok (.iastore, 1) := by decide +kernel
theorem dX12_init_818 : decode cX12_init 818 = .ok (.dup, 1) := by decide +kernel
theorem dX12_init_819 : decode cX12_init 819 = .ok (.bipush 120, 2) := by decide +kernel
theorem dX12_init_821 : decode cX12_init 821 = .ok (.bipush 32, 2) := by decide +kernel
theorem dX12_init_823 : decode cX12_init 823 = .ok (.iastore, 1) := by decide +kernel
theorem dX12_init_824 : decode cX12_init 824 = .ok (.putfield 53, 3) := by decide +kernel
theorem dX12_init_827 : decode cX12_init 827 = .ok (.aload_n 0, 1) := by decide +kernel
theorem dX12_init_828 : decode cX12_init 828 = .ok (.iconst (-1), 1) := by decide +kernel
theorem dX12_init_829 : decode cX12_init 829 = .ok (.putfield 56, 3) := by decide +kernel
theorem dX12_init_832 : decode cX12_init 832 = .ok (.aload_n 0, 1) := by decide +kernel
theorem dX12_init_833 : decode cX12_init 833 = .ok (.bipush 60, 2) := by decide +kernel
theorem dX12_init_835 : decode cX12_init 835 = .ok (.newarray .int, 2) := by decide +kernel
theorem dX12_init_837 : decode cX12_init 837 = .ok (.putfield 59, 3) := by decide +kernel
theorem dX12_init_840 : decode cX12_init 840 = .ok (.aload_n 0, 1) := by decide +kernel
theorem dX12_init_841 : decode cX12_init 841 = .ok (.bipush 60, 2) := by decide +kernel
theorem dX12_init_843 : decode cX12_init 843 = .ok (.newarray .int, 2) := by decide +kernel
theorem dX12_init_845 : decode cX12_init 845 = .ok (.putfield 62, 3) := by decide +kernel
theorem dX12_init_848 : decode cX12_init 848 = .ok (.aload_n 0, 1) := by decide +kernel
theorem dX12_init_849 : decode cX12_init 849 = .ok (.bipush 60, 2) := by decide +kernel
theorem dX12_init_851 : decode cX12_init 851 = .ok (.newarray .int, 2) := by decide +kernel
theorem dX12_init_853 : decode cX12_init 853 = .ok (.putfield 65, 3) := by decide +kernel
theorem dX12_init_856 : decode cX12_init 856 = .ok (.aload_n 0, 1) := by decide +kernel
theorem dX12_init_857 : decode cX12_init 857 = .ok (.bipush 60, 2) := by decide +kernel
theorem dX12_init_859 : decode cX12_init 859 = .ok (.newarray .int, 2) := by decide +kernel
theorem dX12_init_861 : decode cX12_init 861 = .ok (.putfield 68, 3) := by decide +kernel
theorem dX12_init_864 : decode cX12_init 864 = .ok (.aload_n 0, 1) := by decide +kernel
theorem dX12_init_865 : decode cX12_init 865 = .ok (.sipush 2880, 3) := by decide +kernel
theorem dX12_init_868 : decode cX12_init 868 = .ok (.newarray .int, 2) := by decide +kernel
theorem dX12_init_870 : decode cX12_init 870 = .ok (.putfield 71, 3) := by decide +kernel
theorem dX12_init_873 : decode cX12_init 873 = .ok (.aload_n 0, 1) := by decide +kernel
theorem dX12_init_874 : decode cX12_init 874 = .ok (.bipush 60, 2) := by decide +kernel
theorem dX12_init_876 : decode cX12_init 876 = .ok (.newarray .boolean, 2) := by decide +kernel
theorem dX12_init_878 : decode cX12_init 878 = .ok (.putfield 74, 3) := by decide +kernel
theorem dX12_init_881 : decode cX12_init 881 = .ok (.aload_n 0, 1) := by decide +kernel
theorem dX12_init_882 : decode cX12_init 882 = .ok (.sipush 128, 3) := by decide +kernel
theorem dX12_init_885 : decode cX12_init 885 = .ok (.newarray .int, 2) := by decide +kernel
theorem dX12_init_887 : decode cX12_init 887 = .ok (.putfield 78, 3) := by decide +kernel
theorem dX12_init_890 : decode cX12_init 890 = .ok (.aload_n 0, 1) := by decide +kernel
theorem dX12_init_891 : decode cX12_init 891 = .ok (.bipush 16, 2) := by decide +kernel
theorem dX12_init_893 : decode cX12_init 893 = .ok (.newarray .int, 2) := by decide +kernel
theorem dX12_init_895 : decode cX12_init 895 = .ok (.putfield 81, 3) := by decide +kernel
theorem dX12_init_898 : decode cX12_init 898 = .ok (.aload_n 0, 1) := by decide +kernel
theorem dX12_init_899 : decode cX12_init 899 = .ok (.bipush 32, 2) := by decide +kernel
theorem dX12_init_901 : decode cX12_init 901 = .ok (.newarray .int, 2) := by decide +kernel
theorem dX12_init_903 : decode cX12_init 903 = .ok (.putfield 84, 3) := by decide +kernel
theorem dX12_init_906 : decode cX12_init 906 = .ok (.aload_n 0, 1) := by decide +kernel
theorem dX12_init_907 : decode cX12_init 907 = .ok (.bipush 32, 2) := by decide +kernel
theorem dX12_init_909 : decode cX12_init 909 = .ok (.newarray .int, 2) := by decide +kernel
theorem dX12_init_911 : decode cX12_init 911 = .ok (.putfield 87, 3) := by decide +kernel
theorem dX12_init_914 : decode cX12_init 914 = .ok (.aload_n 0, 1) := by decide +kernel
theorem dX12_init_915 : decode cX12_init 915 = .ok (.bipush 32, 2) := by decide +kernel
theorem dX12_init_917 : decode cX12_init 917 = .ok (.newarray .int, 2) := by decide +kernel
theorem dX12_init_919 : decode cX12_init 919 = .ok (.putfield 90, 3) := by decide +kernel
theorem dX12_init_922 : decode cX12_init 922 = .ok (.aload_n 0, 1) := by decide +kernel
theorem dX12_init_923 : decode cX12_init 923 = .ok (.sipush 192, 3) := by decide +kernel
theorem dX12_init_926 : decode cX12_init 926 = .ok (.newarray .int, 2) := by decide +kernel
theorem dX12_init_928 : decode cX12_init 928 = .ok (.putfield 93, 3) := by decide +kernel
theorem dX12_init_931 : decode cX12_init 931 = .ok (.aload_n 0, 1) := by decide +kernel
theorem dX12_init_932 : decode cX12_init 932 = .ok (.sipush 192, 3) := by decide +kernel
theorem dX12_init_935 : decode cX12_init 935 = .ok (.newarray .int, 2) := by decide +kernel
theorem dX12_init_937 : decode cX12_init 937 = .ok (.putfield 96, 3) := by decide +kernel
theorem dX12_init_940 : decode cX12_init 940 = .ok (.aload_n 0, 1) := by decide +kernel
theorem dX12_init_941 : decode cX12_init 941 = .ok (.sipush 192, 3) := by decide +kernel
theorem dX12_init_944 : decode cX12_init 944 = .ok (.newarray .int, 2) := by decide +kernel
theorem dX12_init_946 : decode cX12_init 946 = .ok (.putfield 99, 3) := by decide +kernel
theorem dX12_init_949 : decode cX12_init 949 = .ok (.aload_n 0, 1) := by decide +kernel
theorem dX12_init_950 : decode cX12_init 950 = .ok (.sipush 192, 3) := by decide +kernel
theorem dX12_init_953 : decode cX12_init 953 = .ok (.newarray .int, 2) := by decide +kernel
theorem dX12_init_955 : decode cX12_init 955 = .ok (.putfield 102, 3) := by decide +kernel
theorem dX12_init_958 : decode cX12_init 958 = .ok (.aload_n 0, 1) := by decide +kernel
theorem dX12_init_959 : decode cX12_init 959 = .ok (.sipush 192, 3) := by decide +kernel
theorem dX12_init_962 : decode cX12_init 962 = .ok (.newarray .int, 2) := by decide +kernel
theorem dX12_init_964 : decode cX12_init 964 = .ok (.putfield 105, 3) := by decide +kernel
theorem dX12_init_967 : decode cX12_init 967 = .ok (.aload_n 0, 1) := by decide +kernel
theorem dX12_init_968 : decode cX12_init 968 = .ok (.sipush 192, 3) := by decide +kernel
theorem dX12_init_971 : decode cX12_init 971 = .ok (.newarray .int, 2) := by decide +kernel
theorem dX12_init_973 : decode cX12_init 973 = .ok (.putfield 108, 3) := by decide +kernel
theorem dX12_init_976 : decode cX12_init 976 = .ok (.aload_n 0, 1) := by decide +kernel
theorem dX12_init_977 : decode cX12_init 977 = .ok (.bipush 120, 2) := by decide +kernel
theorem dX12_init_979 : decode cX12_init 979 = .ok (.newarray .int, 2) := by decide +kernel
theorem dX12_init_981 : decode cX12_init 981 = .ok (.putfield 111, 3) := by decide +kernel
theorem dX12_init_984 : decode cX12_init 984 = .ok (.aload_n 0, 1) := by decide +kernel
theorem dX12_init_985 : decode cX12_init 985 = .ok (.bipush 120, 2) := by decide +kernel
theorem dX12_init_987 : decode cX12_init 987 = .ok (.newarray .int, 2) := by decide +kernel
theorem dX12_init_989 : decode cX12_init 989 = .ok (.putfield 114, 3) := by decide +kernel
theorem dX12_init_992 : decode cX12_init 992 = .ok (.aload_n 0, 1) := by decide +kernel
theorem dX12_init_993 : decode cX12_init 993 = .ok (.bipush 120, 2) := by decide +kernel
theorem dX12_init_995 : decode cX12_init 995 = .ok (.newarray .int, 2) := by decide +kernel
theorem dX12_init_997 : decode cX12_init 997 = .ok (.putfield 117, 3) := by decide +kernel
theorem dX12_init_1000 : decode cX12_init 1000 = .ok (.aload_n 0, 1) := by decide +kernel
theorem dX12_init_1001 : decode cX12_init 1001 = .ok (.bipush 96, 2) := by decide +kernel
theorem dX12_init_1003 : decode cX12_init 1003 = .ok (.newarray .int, 2) := by decide +kernel
theorem dX12_init_1005 : decode cX12_init 1005 = .ok (.putfield 120, 3) := by decide +kernel
theorem dX12_init_1008 : decode cX12_init 1008 = .ok (.aload_n 0, 1) := by decide +kernel
theorem dX12_init_1009 : decode cX12_init 1009 = .ok (.bipush 96, 2) := by decide +kernel
theorem dX12_init_1011 : decode cX12_init 1011 = .ok (.newarray .boolean, 2) := by decide +kernel
theorem dX12_init_1013 : decode cX12_init 1013 = .ok (.putfield 123, 3) := by decide +kernel
theorem dX12_init_1016 : decode cX12_init 1016 = .ok (.aload_n 0, 1) := by decide +kernel
theorem dX12_init_1017 : decode cX12_init 1017 = .ok (.sipush 192, 3) := by decide +kernel
theorem dX12_init_1020 : decode cX12_init 1020 = .ok (.newarray .int, 2) := by decide +kernel
theorem dX12_init_1022 : decode cX12_init 1022 = .ok (.putfield 126, 3) := by decide +kernel
theorem dX12_init_1025 : decode cX12_init 1025 = .ok (.aload_n 0, 1) := by decide +kernel
theorem dX12_init_1026 : decode cX12_init 1026 = .ok (.bipush 8, 2) := by decide +kernel
theorem dX12_init_1028 : decode cX12_init 1028 = .ok (.newarray .int, 2) := by decide +kernel
theorem dX12_init_1030 : decode cX12_init 1030 = .ok (.putfield 129, 3) := by decide +kernel
theorem dX12_init_1033 : decode cX12_init 1033 = .ok (.aload_n 0, 1) := by decide +kernel
theorem dX12_init_1034 : decode cX12_init 1034 = .ok (.bipush 8, 2) := by decide +kernel
theorem dX12_init_1036 : decode cX12_init 1036 = .ok (.newarray .int, 2) := by decide +kernel
theorem dX12_init_1038 : decode cX12_init 1038 = .ok (.putfield 132, 3) := by decide +kernel
theorem dX12_init_1041 : decode cX12_init 1041 = .ok (.aload_n 0, 1) := by decide +kernel
theorem dX12_init_1042 : decode cX12_init 1042 = .ok (.bipush 60, 2) := by decide +kernel
theorem dX12_init_1044 : decode cX12_init 1044 = .ok (.newarray .int, 2) := by decide +kernel
theorem dX12_init_1046 : decode cX12_init 1046 = .ok (.putfield 135, 3) := by decide +kernel
theorem dX12_init_1049 : decode cX12_init 1049 = .ok (.aload_n 0, 1) := by decide +kernel
theorem dX12_init_1050 : decode cX12_init 1050 = .ok (.bipush 8, 2) := by decide +kernel
theorem dX12_init_1052 : decode cX12_init 1052 = .ok (.newarray .int, 2) := by decide +kernel
theorem dX12_init_1054 : decode cX12_init 1054 = .ok (.putfield 138, 3) := by decide +kernel
theorem dX12_init_1057 : decode cX12_init 1057 = .ok (.aload_n 0, 1) := by decide +kernel
theorem dX12_init_1058 : decode cX12_init 1058 = .ok (.bipush 72, 2) := by decide +kernel
theorem dX12_init_1060 : decode cX12_init 1060 = .ok (.newarray .int, 2) := by decide +kernel
theorem dX12_init_1062 : decode cX12_init 1062 = .ok (.putfield 141, 3) := by decide +kernel
theorem dX12_init_1065 : decode cX12_init 1065 = .ok (.aload_n 0, 1) := by decide +kernel
theorem dX12_init_1066 : decode cX12_init 1066 = .ok (.bipush 64, 2) := by decide +kernel
theorem dX12_init_1068 : decode cX12_init 1068 = .ok (.newarray .int, 2) := by decide +kernel
theorem dX12_init_1070 : decode cX12_init 1070 = .ok (.putfield 144, 3) := by decide +kernel
theorem dX12_init_1073 : decode cX12_init 1073 = .ok (.aload_n 0, 1) := by decide +kernel
theorem dX12_init_1074 : decode cX12_init 1074 = .ok (.bipush 8, 2) := by decide +kernel
theorem dX12_init_1076 : decode cX12_init 1076 = .ok (.newarray .int, 2) := by decide +kernel
theorem dX12_init_1078 : decode cX12_init 1078 = .ok (.putfield 147, 3) := by decide +kernel
theorem dX12_init_1081 : decode cX12_init 1081 = .ok (.aload_n 0, 1) := by decide +kernel
theorem dX12_init_1082 : decode cX12_init 1082 = .ok (.bipush 8, 2) := by decide +kernel
theorem dX12_init_1084 : decode cX12_init 1084 = .ok (.newarray .int, 2) := by decide +kernel
theorem dX12_init_1086 : decode cX12_init 1086 = .ok (.putfield 150, 3) := by decide +kernel
theorem dX12_init_1089 : decode cX12_init 1089 = .ok (.aload_n 0, 1) := by decide +kernel
theorem dX12_init_1090 : decode cX12_init 1090 = .ok (.bipush 64, 2) := by decide +kernel
theorem dX12_init_1092 : decode cX12_init 1092 = .ok (.newarray .int, 2) := by decide +kernel
theorem dX12_init_1094 : decode cX12_init 1094 = .ok (.putfield 153, 3) := by decide +kernel
theorem dX12_init_1097 : decode cX12_init 1097 = .ok (.aload_n 0, 1) := by decide +kernel
theorem dX12_init_1098 : decode cX12_init 1098 = .ok (.bipush 64, 2) := by decide +kernel
theorem dX12_init_1100 : decode cX12_init 1100 = .ok (.newarray .boolean, 2) := by decide +kernel
theorem dX12_init_1102 : decode cX12_init 1102 = .ok (.putfield 156, 3) := by decide +kernel
theorem dX12_init_1105 : decode cX12_init 1105 = .ok (.aload_n 0, 1) := by decide +kernel
theorem dX12_init_1106 : decode cX12_init 1106 = .ok (.iconst 3, 1) := by decide +kernel
theorem dX12_init_1107 : decode cX12_init 1107 = .ok (.newarray .int, 2) := by decide +kernel
theorem dX12_init_1109 : decode cX12_init 1109 = .ok (.putfield 159, 3) := by decide +kernel
theorem dX12_init_1112 : decode cX12_init 1112 = .ok (.aload_n 0, 1) := by decide +kernel
theorem dX12_init_1113 : decode cX12_init 1113 = .ok (.bipush 8, 2) := by decide +kernel
theorem dX12_init_1115 : decode cX12_init 1115 = .ok (.newarray .int, 2) := by decide +kernel
theorem dX12_init_1117 : decode cX12_init 1117 = .ok (.putfield 162, 3) := by decide +kernel
theorem dX12_init_1120 : decode cX12_init 1120 = .ok (.aload_n 0, 1) := by decide +kernel
theorem dX12_init_1121 : decode cX12_init 1121 = .ok (.bipush 8, 2) := by decide +kernel
theorem dX12_init_1123 : decode cX12_init 1123 = .ok (.newarray .int, 2) := by decide +kernel
theorem dX12_init_1125 : decode cX12_init 1125 = .ok (.putfield 165, 3) := by decide +kernel
theorem dX12_init_1128 : decode cX12_init 1128 = .ok (.aload_n 0, 1) := by decide +kernel
theorem dX12_init_1129 : decode cX12_init 1129 = .ok (.invokevirtual 168, 3) := by decide +kernel
theorem dX12_init_1132 : decode cX12_init 1132 = .ok (.return_, 1) := by decide +kernel
theorem dX12_thrown_0 : decode cX12_thrown 0 = .ok (.aload_n 0, 1) := by decide +kernel
theorem dX12_thrown_1 : decode cX12_thrown 1 = .ok (.getfield 171, 3) := by decide +kernel
theorem dX12_thrown_4 : decode cX12_thrown 4 = .ok (.ireturn, 1) := by decide +kernel
theorem dX12_bare_0 : decode cX12_bare 0 = .ok (.iconst 0, 1) := by decide +kernel
theorem dX12_bare_1 : decode cX12_bare 1 = .ok (.istore_n 1, 1) := by decide +kernel
theorem dX12_bare_2 : decode cX12_bare 2 = .ok (.iload_n 1, 1) := by decide +kernel
theorem dX12_bare_3 : decode cX12_bare 3 = .ok (.bipush 64, 2) := by decide +kernel
theorem dX12_bare_5 : decode cX12_bare 5 = .ok (.if_icmp .ge 44, 3) := by decide +kernel
theorem dX12_bare_8 : decode cX12_bare 8 = .ok (.aload_n 0, 1) := by decide +kernel
theorem dX12_bare_9 : decode cX12_bare 9 = .ok (.getfield 20, 3) := by decide +kernel
theorem dX12_bare_12 : decode cX12_bare 12 = .ok (.iload_n 1, 1) := by decide +kernel
theorem dX12_bare_13 : decode cX12_bare 13 = .ok (.iconst 0, 1) := by decide +kernel
theorem dX12_bare_14 : decode cX12_bare 14 = .ok (.iastore, 1) := by decide +kernel
theorem dX12_bare_15 : decode cX12_bare 15 = .ok (.aload_n 0, 1) := by decide +kernel
theorem dX12_bare_16 : decode cX12_bare 16 = .ok (.getfield 23, 3) := by decide +kernel
theorem dX12_bare_19 : decode cX12_bare 19 = .ok (.iload_n 1, 1) := by decide +kernel
theorem dX12_bare_20 : decode cX12_bare 20 = .ok (.iconst 0, 1) := by decide +kernel
theorem dX12_bare_21 : decode cX12_bare 21 = .ok (.iastore, 1) := by decide +kernel
theorem dX12_bare_22 : decode cX12_bare 22 = .ok (.aload_n 0, 1) := by decide +kernel
theorem dX12_bare_23 : decode cX12_bare 23 = .ok (.getfield 26, 3) := by decide +kernel
theorem dX12_bare_26 : decode cX12_bare 26 = .ok (.iload_n 1, 1) := by decide +kernel
theorem dX12_bare_27 : decode cX12_bare 27 = .ok (.iconst (-1), 1) := by decide +kernel
theorem dX12_bare_28 : decode cX12_bare 28 = .ok (.iastore, 1) := by decide +kernel
theorem dX12_bare_29 : decode cX12_bare 29 = .ok (.aload_n 0, 1) := by decide +kernel
theorem dX12_bare_30 : decode cX12_bare 30 = .ok (.getfield 29, 3) := by decide +kernel
theorem dX12_bare_33 : decode cX12_bare 33 = .ok (.iload_n 1, 1) := by decide +kernel
theorem dX12_bare_34 : decode cX12_bare 34 = .ok (.iconst 1, 1) := by decide +kernel
theorem dX12_bare_35 : decode cX12_bare 35 = .ok (.iastore, 1) := by decide +kernel
theorem dX12_bare_36 : decode cX12_bare 36 = .ok (.aload_n 0, 1) := by decide +kernel
theorem dX12_bare_37 : decode cX12_bare 37 = .ok (.getfield 32, 3) := by decide +kernel
theorem dX12_bare_40 : decode cX12_bare 40 = .ok (.iload_n 1, 1) := by decide +kernel
theorem dX12_bare_41 : decode cX12_bare 41 = .ok (.iconst (-1), 1) := by decide +kernel
theorem dX12_bare_42 : decode cX12_bare 42 = .ok (.iastore, 1) := by decide +kernel
theorem dX12_bare_43 : decode cX12_bare 43 = .ok (.iinc 1 1, 3) := by decide +kernel
theorem dX12_bare_46 : decode cX12_bare 46 = .ok (.goto (-44), 3) := by decide +kernel
theorem dX12_bare_49 : decode cX12_bare 49 = .ok (.aload_n 0, 1) := by decide +kernel
theorem dX12_bare_50 : decode cX12_bare 50 = .ok (.iconst 0, 1) := by decide +kernel
theorem dX12_bare_51 : decode cX12_bare 51 = .ok (.putfield 174, 3) := by decide +kernel
theorem dX12_bare_54 : decode cX12_bare 54 = .ok (.return_, 1) := by decide +kernel
theorem dX12_feed_0 : decode cX12_feed 0 = .ok (.aload_n 0, 1) := by decide +kernel
theorem dX12_feed_1 : decode cX12_feed 1 = .ok (.iconst 0, 1) := by decide +kernel
theorem dX12_feed_2 : decode cX12_feed 2 = .ok (.putfield 171, 3) := by decide +kernel
theorem dX12_feed_5 : decode cX12_feed 5 = .ok (.aload_n 0, 1) := by decide +kernel
theorem dX12_feed_6 : decode cX12_feed 6 = .ok (.getfield 177, 3) := by decide +kernel
theorem dX12_feed_9 : decode cX12_feed 9 = .ok (.bipush 20, 2) := by decide +kernel
theorem dX12_feed_11 : decode cX12_feed 11 = .ok (.iadd, 1) := by decide +kernel
theorem dX12_feed_12 : decode cX12_feed 12 = .ok (.sipush 800, 3) := by decide +kernel
theorem dX12_feed_15 : decode cX12_feed 15 = .ok (.if_icmp .le 5, 3) := by decide +kernel
theorem dX12_feed_18 : decode cX12_feed 18 = .ok (.iconst (-1), 1) := by decide +kernel
theorem dX12_feed_19 : decode cX12_feed 19 = .ok (.ireturn, 1) := by decide +kernel
theorem dX12_feed_20 : decode cX12_feed 20 = .ok (.iconst 0, 1) := by decide +kernel
theorem dX12_feed_21 : decode cX12_feed 21 = .ok (.istore 6, 2) := by decide +kernel
theorem dX12_feed_23 : decode cX12_feed 23 = .ok (.iload 6, 2) := by decide +kernel
theorem dX12_feed_25 : decode cX12_feed 25 = .ok (.bipush 20, 2) := by decide +kernel
theorem dX12_feed_27 : decode cX12_feed 27 = .ok (.if_icmp .ge 86, 3) := by decide +kernel
theorem dX12_feed_30 : decode cX12_feed 30 = .ok (.iload 6, 2) := by decide +kernel
theorem dX12_feed_32 : decode cX12_feed 32 = .ok (.iconst 4, 1) := by decide +kernel
theorem dX12_feed_33 : decode cX12_feed 33 = .ok (.if_icmp .ge 7, 3) := by decide +kernel
theorem dX12_feed_36 : decode cX12_feed 36 = .ok (.iload_n 1, 1) := by decide +kernel
theorem dX12_feed_37 : decode cX12_feed 37 = .ok (.goto 39, 3) := by decide +kernel
theorem dX12_feed_40 : decode cX12_feed 40 = .ok (.iload 6, 2) := by decide +kernel
theorem dX12_feed_42 : decode cX12_feed 42 = .ok (.bipush 8, 2) := by decide +kernel
theorem dX12_feed_44 : decode cX12_feed 44 = .ok (.if_icmp .ge 7, 3) := by decide +kernel
theorem dX12_feed_47 : decode cX12_feed 47 = .ok (.iload_n 2, 1) := by decide +kernel
theorem dX12_feed_48 : decode cX12_feed 48 = .ok (.goto 28, 3) := by decide +kernel
theorem dX12_feed_51 : decode cX12_feed 51 = .ok (.iload 6, 2) := by decide +kernel
theorem dX12_feed_53 : decode cX12_feed 53 = .ok (.bipush 12, 2) := by decide +kernel
theorem dX12_feed_55 : decode cX12_feed 55 = .ok (.if_icmp .ge 7, 3) := by decide +kernel
theorem dX12_feed_58 : decode cX12_feed 58 = .ok (.iload_n 3, 1) := by decide +kernel
theorem dX12_feed_59 : decode cX12_feed 59 = .ok (.goto 17, 3) := by decide +kernel
theorem dX12_feed_62 : decode cX12_feed 62 = .ok (.iload 6, 2) := by decide +kernel
theorem dX12_feed_64 : decode cX12_feed 64 = .ok (.bipush 16, 2) := by decide +kernel
theorem dX12_feed_66 : decode cX12_feed 66 = .ok (.if_icmp .ge 8, 3) := by decide +kernel
theorem dX12_feed_69 : decode cX12_feed 69 = .ok (.iload 4, 2) := by decide +kernel
theorem dX12_feed_71 : decode cX12_feed 71 = .ok (.goto 5, 3) := by decide +kernel
theorem dX12_feed_74 : decode cX12_feed 74 = .ok (.iload 5, 2) := by decide +kernel
theorem dX12_feed_76 : decode cX12_feed 76 = .ok (.istore 7, 2) := by decide +kernel
theorem dX12_feed_78 : decode cX12_feed 78 = .ok (.aload_n 0, 1) := by decide +kernel
theorem dX12_feed_79 : decode cX12_feed 79 = .ok (.getfield 7, 3) := by decide +kernel
theorem dX12_feed_82 : decode cX12_feed 82 = .ok (.aload_n 0, 1) := by decide +kernel
theorem dX12_feed_83 : decode cX12_feed 83 = .ok (.getfield 177, 3) := by decide +kernel
theorem dX12_feed_86 : decode cX12_feed 86 = .ok (.iload 6, 2) := by decide +kernel
theorem dX12_feed_88 : decode cX12_feed 88 = .ok (.iadd, 1) := by decide +kernel
theorem dX12_feed_89 : decode cX12_feed 89 = .ok (.iload 7, 2) := by decide +kernel
theorem dX12_feed_91 : decode cX12_feed 91 = .ok (.bipush 24, 2) := by decide +kernel
theorem dX12_feed_93 : decode cX12_feed 93 = .ok (.bipush 8, 2) := by decide +kernel
theorem dX12_feed_95 : decode cX12_feed 95 = .ok (.iload 6, 2) := by decide +kernel
theorem dX12_feed_97 : decode cX12_feed 97 = .ok (.iconst 4, 1) := by decide +kernel
theorem dX12_feed_98 : decode cX12_feed 98 = .ok (.irem, 1) := by decide +kernel
theorem dX12_feed_99 : decode cX12_feed 99 = .ok (.imul, 1) := by decide +kernel
theorem dX12_feed_100 : decode cX12_feed 100 = .ok (.isub, 1) := by decide +kernel
theorem dX12_feed_101 : decode cX12_feed 101 = .ok (.ishr, 1) := by decide +kernel
theorem dX12_feed_102 : decode cX12_feed 102 = .ok (.sipush 255, 3) := by decide +kernel
theorem dX12_feed_105 : decode cX12_feed 105 = .ok (.iand, 1) := by decide +kernel
theorem dX12_feed_106 : decode cX12_feed 106 = .ok (.iastore, 1) := by decide +kernel
theorem dX12_feed_107 : decode cX12_feed 107 = .ok (.iinc 6 1, 3) := by decide +kernel
theorem dX12_feed_110 : decode cX12_feed 110 = .ok (.goto (-87), 3) := by decide +kernel
theorem dX12_feed_113 : decode cX12_feed 113 = .ok (.aload_n 0, 1) := by decide +kernel
theorem dX12_feed_114 : decode cX12_feed 114 = .ok (.dup, 1) := by decide +kernel
theorem dX12_feed_115 : decode cX12_feed 115 = .ok (.getfield 177, 3) := by decide +kernel
theorem dX12_feed_118 : decode cX12_feed 118 = .ok (.bipush 20, 2) := by decide +kernel
theorem dX12_feed_120 : decode cX12_feed 120 = .ok (.iadd, 1) := by decide +kernel
theorem dX12_feed_121 : decode cX12_feed 121 = .ok (.putfield 177, 3) := by decide +kernel
theorem dX12_feed_124 : decode cX12_feed 124 = .ok (.aload_n 0, 1) := by decide +kernel
theorem dX12_feed_125 : decode cX12_feed 125 = .ok (.getfield 177, 3) := by decide +kernel
theorem dX12_feed_128 : decode cX12_feed 128 = .ok (.ireturn, 1) := by decide +kernel
theorem dX12_land_0 : decode cX12_land 0 = .ok (.aload_n 0, 1) := by decide +kernel
theorem dX12_land_1 : decode cX12_land 1 = .ok (.iconst 0, 1) := by decide +kernel
theorem dX12_land_2 : decode cX12_land 2 = .ok (.putfield 171, 3) := by decide +kernel
theorem dX12_land_5 : decode cX12_land 5 = .ok (.iload_n 1, 1) := by decide +kernel
theorem dX12_land_6 : decode cX12_land 6 = .ok (.iconst 2, 1) := by decide +kernel
theorem dX12_land_7 : decode cX12_land 7 = .ok (.if_icmp .lt 20, 3) := by decide +kernel
theorem dX12_land_10 : decode cX12_land 10 = .ok (.iload_n 1, 1) := by decide +kernel
theorem dX12_land_11 : decode cX12_land 11 = .ok (.bipush 8, 2) := by decide +kernel
theorem dX12_land_13 : decode cX12_land 13 = .ok (.if_icmp .gt 14, 3) := by decide +kernel
theorem dX12_land_16 : decode cX12_land 16 = .ok (.iload_n 2, 1) := by decide +kernel
theorem dX12_land_17 : decode cX12_land 17 = .ok (.iconst 2, 1) := by decide +kernel
theorem dX12_land_18 : decode cX12_land 18 = .ok (.if_icmp .lt 9, 3) := by decide +kernel
theorem dX12_land_21 : decode cX12_land 21 = .ok (.iload_n 2, 1) := by decide +kernel
theorem dX12_land_22 : decode cX12_land 22 = .ok (.bipush 8, 2) := by decide +kernel
theorem dX12_land_24 : decode cX12_land 24 = .ok (.if_icmp .le 5, 3) := by decide +kernel
theorem dX12_land_27 : decode cX12_land 27 = .ok (.iconst 0, 1) := by decide +kernel
theorem dX12_land_28 : decode cX12_land 28 = .ok (.ireturn, 1) := by decide +kernel
theorem dX12_land_29 : decode cX12_land 29 = .ok (.aload_n 0, 1) := by decide +kernel
theorem dX12_land_30 : decode cX12_land 30 = .ok (.iload_n 1, 1) := by decide +kernel
theorem dX12_land_31 : decode cX12_land 31 = .ok (.putfield 13, 3) := by decide +kernel
theorem dX12_land_34 : decode cX12_land 34 = .ok (.aload_n 0, 1) := by decide +kernel
theorem dX12_land_35 : decode cX12_land 35 = .ok (.iload_n 2, 1) := by decide +kernel
theorem dX12_land_36 : decode cX12_land 36 = .ok (.putfield 17, 3) := by decide +kernel
theorem dX12_land_39 : decode cX12_land 39 = .ok (.aload_n 0, 1) := by decide +kernel
theorem dX12_land_40 : decode cX12_land 40 = .ok (.invokevirtual 168, 3) := by decide +kernel
theorem dX12_land_43 : decode cX12_land 43 = .ok (.iconst 1, 1) := by decide +kernel
theorem dX12_land_44 : decode cX12_land 44 = .ok (.ireturn, 1) := by decide +kernel
theorem dX12_isCell_0 : decode cX12_isCell 0 = .ok (.iload_n 1, 1) := by decide +kernel
theorem dX12_isCell_1 : decode cX12_isCell 1 = .ok (.ifCond .lt 20, 3) := by decide +kernel
theorem dX12_isCell_4 : decode cX12_isCell 4 = .ok (.iload_n 1, 1) := by decide +kernel
theorem dX12_isCell_5 : decode cX12_isCell 5 = .ok (.aload_n 0, 1) := by decide +kernel
theorem dX12_isCell_6 : decode cX12_isCell 6 = .ok (.getfield 13, 3) := by decide +kernel
theorem dX12_isCell_9 : decode cX12_isCell 9 = .ok (.aload_n 0, 1) := by decide +kernel
theorem dX12_isCell_10 : decode cX12_isCell 10 = .ok (.getfield 17, 3) := by decide +kernel
theorem dX12_isCell_13 : decode cX12_isCell 13 = .ok (.imul, 1) := by decide +kernel
theorem dX12_isCell_14 : decode cX12_isCell 14 = .ok (.if_icmp .ge 7, 3) := by decide +kernel
theorem dX12_isCell_17 : decode cX12_isCell 17 = .ok (.iconst 1, 1) := by decide +kernel
theorem dX12_isCell_18 : decode cX12_isCell 18 = .ok (.goto 4, 3) := by decide +kernel
theorem dX12_isCell_21 : decode cX12_isCell 21 = .ok (.iconst 0, 1) := by decide +kernel
theorem dX12_isCell_22 : decode cX12_isCell 22 = .ok (.ireturn, 1) := by decide +kernel
theorem dX12_ground_0 : decode cX12_ground 0 = .ok (.aload_n 0, 1) := by decide +kernel
theorem dX12_ground_1 : decode cX12_ground 1 = .ok (.iconst 0, 1) := by decide +kernel
theorem dX12_ground_2 : decode cX12_ground 2 = .ok (.putfield 171, 3) := by decide +kernel
theorem dX12_ground_5 : decode cX12_ground 5 = .ok (.aload_n 0, 1) := by decide +kernel
theorem dX12_ground_6 : decode cX12_ground 6 = .ok (.iload_n 1, 1) := by decide +kernel
theorem dX12_ground_7 : decode cX12_ground 7 = .ok (.invokevirtual 180, 3) := by decide +kernel
theorem dX12_ground_10 : decode cX12_ground 10 = .ok (.ifCond .ne 5, 3) := by decide +kernel
theorem dX12_ground_13 : decode cX12_ground 13 = .ok (.iconst 0, 1) := by decide +kernel
theorem dX12_ground_14 : decode cX12_ground 14 = .ok (.ireturn, 1) := by decide +kernel
theorem dX12_ground_15 : decode cX12_ground 15 = .ok (.iload_n 2, 1) := by decide +kernel
theorem dX12_ground_16 : decode cX12_ground 16 = .ok (.tableswitch 142 0 4 #[36, 58, 78, 100, 121], 36) := by decide +kernel
theorem dX12_ground_52 : decode cX12_ground 52 = .ok (.iload_n 3, 1) := by decide +kernel
theorem dX12_ground_53 : decode cX12_ground 53 = .ok (.ifCond .lt 10, 3) := by decide +kernel
theorem dX12_ground_56 : decode cX12_ground 56 = .ok (.iload_n 3, 1) := by decide +kernel
theorem dX12_ground_57 : decode cX12_ground 57 = .ok (.sipush 999, 3) := by decide +kernel
theorem dX12_ground_60 : decode cX12_ground 60 = .ok (.if_icmp .le 5, 3) := by decide +kernel
theorem dX12_ground_63 : decode cX12_ground 63 = .ok (.iconst 0, 1) := by decide +kernel
theorem dX12_ground_64 : decode cX12_ground 64 = .ok (.ireturn, 1) := by decide +kernel
theorem dX12_ground_65 : decode cX12_ground 65 = .ok (.aload_n 0, 1) := by decide +kernel
theorem dX12_ground_66 : decode cX12_ground 66 = .ok (.getfield 20, 3) := by decide +kernel
theorem dX12_ground_69 : decode cX12_ground 69 = .ok (.iload_n 1, 1) := by decide +kernel
theorem dX12_ground_70 : decode cX12_ground 70 = .ok (.iload_n 3, 1) := by decide +kernel
theorem dX12_ground_71 : decode cX12_ground 71 = .ok (.iastore, 1) := by decide +kernel
theorem dX12_ground_72 : decode cX12_ground 72 = .ok (.iconst 1, 1) := by decide +kernel
theorem dX12_ground_73 : decode cX12_ground 73 = .ok (.ireturn, 1) := by decide +kernel
theorem dX12_ground_74 : decode cX12_ground 74 = .ok (.iload_n 3, 1) := by decide +kernel
theorem dX12_ground_75 : decode cX12_ground 75 = .ok (.ifCond .lt 8, 3) := by decide +kernel
theorem dX12_ground_78 : decode cX12_ground 78 = .ok (.iload_n 3, 1) := by decide +kernel
theorem dX12_ground_79 : decode cX12_ground 79 = .ok (.iconst 3, 1) := by decide +kernel
theorem dX12_ground_80 : decode cX12_ground 80 = .ok (.if_icmp .le 5, 3) := by decide +kernel
theorem dX12_ground_83 : decode cX12_ground 83 = .ok (.iconst 0, 1) := by decide +kernel
theorem dX12_ground_84 : decode cX12_ground 84 = .ok (.ireturn, 1) := by decide +kernel
theorem dX12_ground_85 : decode cX12_ground 85 = .ok (.aload_n 0, 1) := by decide +kernel
theorem dX12_ground_86 : decode cX12_ground 86 = .ok (.getfield 23, 3) := by decide +kernel
theorem dX12_ground_89 : decode cX12_ground 89 = .ok (.iload_n 1, 1) := by decide +kernel
theorem dX12_ground_90 : decode cX12_ground 90 = .ok (.iload_n 3, 1) := by decide +kernel
theorem dX12_ground_91 : decode cX12_ground 91 = .ok (.iastore, 1) := by decide +kernel
theorem dX12_ground_92 : decode cX12_ground 92 = .ok (.iconst 1, 1) := by decide +kernel
theorem dX12_ground_93 : decode cX12_ground 93 = .ok (.ireturn, 1) := by decide +kernel
theorem dX12_ground_94 : decode cX12_ground 94 = .ok (.iload_n 3, 1) := by decide +kernel
theorem dX12_ground_95 : decode cX12_ground 95 = .ok (.iconst (-1), 1) := by decide +kernel
theorem dX12_ground_96 : decode cX12_ground 96 = .ok (.if_icmp .lt 9, 3) := by decide +kernel
theorem dX12_ground_99 : decode cX12_ground 99 = .ok (.iload_n 3, 1) := by decide +kernel
theorem dX12_ground_100 : decode cX12_ground 100 = .ok (.bipush 99, 2) := by decide +kernel
theorem dX12_ground_102 : decode cX12_ground 102 = .ok (.if_icmp .le 5, 3) := by decide +kernel
theorem dX12_ground_105 : decode cX12_ground 105 = .ok (.iconst 0, 1) := by decide +kernel
theorem dX12_ground_106 : decode cX12_ground 106 = .ok (.ireturn, 1) := by decide +kernel
theorem dX12_ground_107 : decode cX12_ground 107 = .ok (.aload_n 0, 1) := by decide +kernel
theorem dX12_ground_108 : decode cX12_ground 108 = .ok (.getfield 26, 3) := by decide +kernel
theorem dX12_ground_111 : decode cX12_ground 111 = .ok (.iload_n 1, 1) := by decide +kernel
theorem dX12_ground_112 : decode cX12_ground 112 = .ok (.iload_n 3, 1) := by decide +kernel
theorem dX12_ground_113 : decode cX12_ground 113 = .ok (.iastore, 1) := by decide +kernel
theorem dX12_ground_114 : decode cX12_ground 114 = .ok (.iconst 1, 1) := by decide +kernel
theorem dX12_ground_115 : decode cX12_ground 115 = .ok (.ireturn, 1) := by decide +kernel
theorem dX12_ground_116 : decode cX12_ground 116 = .ok (.iload_n 3, 1) := by decide +kernel
theorem dX12_ground_117 : decode cX12_ground 117 = .ok (.ifCond .lt 9, 3) := by decide +kernel
theorem dX12_ground_120 : decode cX12_ground 120 = .ok (.iload_n 3, 1) := by decide +kernel
theorem dX12_ground_121 : decode cX12_ground 121 = .ok (.bipush 99, 2) := by decide +kernel
theorem dX12_ground_123 : decode cX12_ground 123 = .ok (.if_icmp .le 5, 3) := by decide +kernel
theorem dX12_ground_126 : decode cX12_ground 126 = .ok (.iconst 0, 1) := by decide +kernel
theorem dX12_ground_127 : decode cX12_ground 127 = .ok (.ireturn, 1) := by decide +kernel
theorem dX12_ground_128 : decode cX12_ground 128 = .ok (.aload_n 0, 1) := by decide +kernel
theorem dX12_ground_129 : decode cX12_ground 129 = .ok (.getfield 29, 3) := by decide +kernel
theorem dX12_ground_132 : decode cX12_ground 132 = .ok (.iload_n 1, 1) := by decide +kernel
theorem dX12_ground_133 : decode cX12_ground 133 = .ok (.iload_n 3, 1) := by decide +kernel
theorem dX12_ground_134 : decode cX12_ground 134 = .ok (.iastore, 1) := by decide +kernel
theorem dX12_ground_135 : decode cX12_ground 135 = .ok (.iconst 1, 1) := by decide +kernel
theorem dX12_ground_136 : decode cX12_ground 136 = .ok (.ireturn, 1) := by decide +kernel
theorem dX12_ground_137 : decode cX12_ground 137 = .ok (.iload_n 3, 1) := by decide +kernel
theorem dX12_ground_138 : decode cX12_ground 138 = .ok (.iconst (-1), 1) := by decide +kernel
theorem dX12_ground_139 : decode cX12_ground 139 = .ok (.if_icmp .lt 8, 3) := by decide +kernel
theorem dX12_ground_142 : decode cX12_ground 142 = .ok (.iload_n 3, 1) := by decide +kernel
theorem dX12_ground_143 : decode cX12_ground 143 = .ok (.iconst 5, 1) := by decide +kernel
theorem dX12_ground_144 : decode cX12_ground 144 = .ok (.if_icmp .le 5, 3) := by decide +kernel
theorem dX12_ground_147 : decode cX12_ground 147 = .ok (.iconst 0, 1) := by decide +kernel
theorem dX12_ground_148 : decode cX12_ground 148 = .ok (.ireturn, 1) := by decide +kernel
theorem dX12_ground_149 : decode cX12_ground 149 = .ok (.aload_n 0, 1) := by decide +kernel
theorem dX12_ground_150 : decode cX12_ground 150 = .ok (.getfield 32, 3) := by decide +kernel
theorem dX12_ground_153 : decode cX12_ground 153 = .ok (.iload_n 1, 1) := by decide +kernel
theorem dX12_ground_154 : decode cX12_ground 154 = .ok (.iload_n 3, 1) := by decide +kernel
theorem dX12_ground_155 : decode cX12_ground 155 = .ok (.iastore, 1) := by decide +kernel
theorem dX12_ground_156 : decode cX12_ground 156 = .ok (.iconst 1, 1) := by decide +kernel
theorem dX12_ground_157 : decode cX12_ground 157 = .ok (.ireturn, 1) := by decide +kernel
theorem dX12_ground_158 : decode cX12_ground 158 = .ok (.iconst 0, 1) := by decide +kernel
theorem dX12_ground_159 : decode cX12_ground 159 = .ok (.ireturn, 1) := by decide +kernel
theorem dX12_bounds_0 : decode cX12_bounds 0 = .ok (.aload_n 0, 1) := by decide +kernel
theorem dX12_bounds_1 : decode cX12_bounds 1 = .ok (.iconst 0, 1) := by decide +kernel
theorem dX12_bounds_2 : decode cX12_bounds 2 = .ok (.putfield 171, 3) := by decide +kernel
theorem dX12_bounds_5 : decode cX12_bounds 5 = .ok (.iload_n 1, 1) := by decide +kernel
theorem dX12_bounds_6 : decode cX12_bounds 6 = .ok (.ifCond .lt 34, 3) := by decide +kernel
theorem dX12_bounds_9 : decode cX12_bounds 9 = .ok (.iload_n 1, 1) := by decide +kernel
theorem dX12_bounds_10 : decode cX12_bounds 10 = .ok (.iconst 1, 1) := by decide +kernel
theorem dX12_bounds_11 : decode cX12_bounds 11 = .ok (.if_icmp .gt 29, 3) := by decide +kernel
theorem dX12_bounds_14 : decode cX12_bounds 14 = .ok (.iload_n 2, 1) := by decide +kernel
theorem dX12_bounds_15 : decode cX12_bounds 15 = .ok (.iconst 1, 1) := by decide +kernel
theorem dX12_bounds_16 : decode cX12_bounds 16 = .ok (.if_icmp .lt 24, 3) := by decide +kernel
theorem dX12_bounds_19 : decode cX12_bounds 19 = .ok (.iload_n 2, 1) := by decide +kernel
theorem dX12_bounds_20 : decode cX12_bounds 20 = .ok (.iload_n 3, 1) := by decide +kernel
theorem dX12_bounds_21 : decode cX12_bounds 21 = .ok (.if_icmp .ge 19, 3) := by decide +kernel
theorem dX12_bounds_24 : decode cX12_bounds 24 = .ok (.iload_n 3, 1) := by decide +kernel
theorem dX12_bounds_25 : decode cX12_bounds 25 = .ok (.iload_n 1, 1) := by decide +kernel
theorem dX12_bounds_26 : decode cX12_bounds 26 = .ok (.ifCond .ne 9, 3) := by decide +kernel
theorem dX12_bounds_29 : decode cX12_bounds 29 = .ok (.sipush 999, 3) := by decide +kernel
theorem dX12_bounds_32 : decode cX12_bounds 32 = .ok (.goto 5, 3) := by decide +kernel
theorem dX12_bounds_35 : decode cX12_bounds 35 = .ok (.bipush 99, 2) := by decide +kernel
theorem dX12_bounds_37 : decode cX12_bounds 37 = .ok (.if_icmp .le 5, 3) := by decide +kernel
theorem dX12_bounds_40 : decode cX12_bounds 40 = .ok (.iconst 0, 1) := by decide +kernel
theorem dX12_bounds_41 : decode cX12_bounds 41 = .ok (.ireturn, 1) := by decide +kernel
theorem dX12_bounds_42 : decode cX12_bounds 42 = .ok (.iload_n 1, 1) := by decide +kernel
theorem dX12_bounds_43 : decode cX12_bounds 43 = .ok (.ifCond .ne 16, 3) := by decide +kernel
theorem dX12_bounds_46 : decode cX12_bounds 46 = .ok (.aload_n 0, 1) := by decide +kernel
theorem dX12_bounds_47 : decode cX12_bounds 47 = .ok (.iload_n 2, 1) := by decide +kernel
theorem dX12_bounds_48 : decode cX12_bounds 48 = .ok (.putfield 35, 3) := by decide +kernel
theorem dX12_bounds_51 : decode cX12_bounds 51 = .ok (.aload_n 0, 1) := by decide +kernel
theorem dX12_bounds_52 : decode cX12_bounds 52 = .ok (.iload_n 3, 1) := by decide +kernel
theorem dX12_bounds_53 : decode cX12_bounds 53 = .ok (.putfield 38, 3) := by decide +kernel
theorem dX12_bounds_56 : decode cX12_bounds 56 = .ok (.goto 13, 3) := by decide +kernel
theorem dX12_bounds_59 : decode cX12_bounds 59 = .ok (.aload_n 0, 1) := by decide +kernel
theorem dX12_bounds_60 : decode cX12_bounds 60 = .ok (.iload_n 2, 1) := by decide +kernel
theorem dX12_bounds_61 : decode cX12_bounds 61 = .ok (.putfield 41, 3) := by decide +kernel
theorem dX12_bounds_64 : decode cX12_bounds 64 = .ok (.aload_n 0, 1) := by decide +kernel
theorem dX12_bounds_65 : decode cX12_bounds 65 = .ok (.iload_n 3, 1) := by decide +kernel
theorem dX12_bounds_66 : decode cX12_bounds 66 = .ok (.putfield 44, 3) := by decide +kernel
theorem dX12_bounds_69 : decode cX12_bounds 69 = .ok (.iconst 1, 1) := by decide +kernel
theorem dX12_bounds_70 : decode cX12_bounds 70 = .ok (.ireturn, 1) := by decide +kernel
theorem dX12_price_0 : decode cX12_price 0 = .ok (.aload_n 0, 1) := by decide +kernel
theorem dX12_price_1 : decode cX12_price 1 = .ok (.iconst 0, 1) := by decide +kernel
theorem dX12_price_2 : decode cX12_price 2 = .ok (.putfield 171, 3) := by decide +kernel
theorem dX12_price_5 : decode cX12_price 5 = .ok (.iload_n 1, 1) := by decide +kernel
theorem dX12_price_6 : decode cX12_price 6 = .ok (.ifCond .lt 19, 3) := by decide +kernel
theorem dX12_price_9 : decode cX12_price 9 = .ok (.iload_n 1, 1) := by decide +kernel
theorem dX12_price_10 : decode cX12_price 10 = .ok (.iconst 1, 1) := by decide +kernel
theorem dX12_price_11 : decode cX12_price 11 = .ok (.if_icmp .gt 14, 3) := by decide +kernel
theorem dX12_price_14 : decode cX12_price 14 = .ok (.iload_n 2, 1) := by decide +kernel
theorem dX12_price_15 : decode cX12_price 15 = .ok (.ifCond .lt 10, 3) := by decide +kernel
theorem dX12_price_18 : decode cX12_price 18 = .ok (.iload_n 2, 1) := by decide +kernel
theorem dX12_price_19 : decode cX12_price 19 = .ok (.sipush 9999, 3) := by decide +kernel
theorem dX12_price_22 : decode cX12_price 22 = .ok (.if_icmp .le 5, 3) := by decide +kernel
theorem dX12_price_25 : decode cX12_price 25 = .ok (.iconst 0, 1) := by decide +kernel
theorem dX12_price_26 : decode cX12_price 26 = .ok (.ireturn, 1) := by decide +kernel
theorem dX12_price_27 : decode cX12_price 27 = .ok (.iload_n 1, 1) := by decide +kernel
theorem dX12_price_28 : decode cX12_price 28 = .ok (.ifCond .ne 11, 3) := by decide +kernel
theorem dX12_price_31 : decode cX12_price 31 = .ok (.aload_n 0, 1) := by decide +kernel
theorem dX12_price_32 : decode cX12_price 32 = .ok (.iload_n 2, 1) := by decide +kernel
theorem dX12_price_33 : decode cX12_price 33 = .ok (.putfield 47, 3) := by decide +kernel
theorem dX12_price_36 : decode cX12_price 36 = .ok (.goto 8, 3) := by decide +kernel
theorem dX12_price_39 : decode cX12_price 39 = .ok (.aload_n 0, 1) := by decide +kernel
theorem dX12_price_40 : decode cX12_price 40 = .ok (.iload_n 2, 1) := by decide +kernel
theorem dX12_price_41 : decode cX12_price 41 = .ok (.putfield 50, 3) := by decide +kernel
theorem dX12_price_44 : decode cX12_price 44 = .ok (.iconst 1, 1) := by decide +kernel
theorem dX12_price_45 : decode cX12_price 45 = .ok (.ireturn, 1) := by decide +kernel
theorem dX12_wrong_0 : decode cX12_wrong 0 = .ok (.aload_n 0, 1) := by decide +kernel
theorem dX12_wrong_1 : decode cX12_wrong 1 = .ok (.iload_n 1, 1) := by decide +kernel
theorem dX12_wrong_2 : decode cX12_wrong 2 = .ok (.putfield 184, 3) := by decide +kernel
theorem dX12_wrong_5 : decode cX12_wrong 5 = .ok (.aload_n 0, 1) := by decide +kernel
theorem dX12_wrong_6 : decode cX12_wrong 6 = .ok (.aload_n 0, 1) := by decide +kernel
theorem dX12_wrong_7 : decode cX12_wrong 7 = .ok (.getfield 187, 3) := by decide +kernel
theorem dX12_wrong_10 : decode cX12_wrong 10 = .ok (.putfield 56, 3) := by decide +kernel
theorem dX12_wrong_13 : decode cX12_wrong 13 = .ok (.iconst 0, 1) := by decide +kernel
theorem dX12_wrong_14 : decode cX12_wrong 14 = .ok (.ireturn, 1) := by decide +kernel
theorem dX12_wordAt_0 : decode cX12_wordAt 0 = .ok (.iconst 0, 1) := by decide +kernel
theorem dX12_wordAt_1 : decode cX12_wordAt 1 = .ok (.istore_n 3, 1) := by decide +kernel
theorem dX12_wordAt_2 : decode cX12_wordAt 2 = .ok (.iconst 0, 1) := by decide +kernel
theorem dX12_wordAt_3 : decode cX12_wordAt 3 = .ok (.istore 4, 2) := by decide +kernel
theorem dX12_wordAt_5 : decode cX12_wordAt 5 = .ok (.iload 4, 2) := by decide +kernel
theorem dX12_wordAt_7 : decode cX12_wordAt 7 = .ok (.aload_n 0, 1) := by decide +kernel
theorem dX12_wordAt_8 : decode cX12_wordAt 8 = .ok (.getfield 53, 3) := by decide +kernel
theorem dX12_wordAt_11 : decode cX12_wordAt 11 = .ok (.arraylength, 1) := by decide +kernel
theorem dX12_wordAt_12 : decode cX12_wordAt 12 = .ok (.if_icmp .ge 114, 3) := by decide +kernel
