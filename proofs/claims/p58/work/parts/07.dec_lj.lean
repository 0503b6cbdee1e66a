theorem dL_cell_0 : decode cL_cell 0 = .ok (.iload_n 1, 1) := by decide +kernel
theorem dL_cell_1 : decode cL_cell 1 = .ok (.aload_n 0, 1) := by decide +kernel
theorem dL_cell_2 : decode cL_cell 2 = .ok (.arraylength, 1) := by decide +kernel
theorem dL_cell_3 : decode cL_cell 3 = .ok (.if_icmp .ge 9, 3) := by decide +kernel
theorem dL_cell_6 : decode cL_cell 6 = .ok (.aload_n 0, 1) := by decide +kernel
theorem dL_cell_7 : decode cL_cell 7 = .ok (.iload_n 1, 1) := by decide +kernel
theorem dL_cell_8 : decode cL_cell 8 = .ok (.iaload, 1) := by decide +kernel
theorem dL_cell_9 : decode cL_cell 9 = .ok (.goto 4, 3) := by decide +kernel
theorem dL_cell_12 : decode cL_cell 12 = .ok (.iconst 0, 1) := by decide +kernel
theorem dL_cell_13 : decode cL_cell 13 = .ok (.ireturn, 1) := by decide +kernel
theorem dL_in_0 : decode cL_in 0 = .ok (.iload_n 0, 1) := by decide +kernel
theorem dL_in_1 : decode cL_in 1 = .ok (.ldc 7, 2) := by decide +kernel
theorem dL_in_3 : decode cL_in 3 = .ok (.iand, 1) := by decide +kernel
theorem dL_in_4 : decode cL_in 4 = .ok (.iload_n 1, 1) := by decide +kernel
theorem dL_in_5 : decode cL_in 5 = .ok (.irem, 1) := by decide +kernel
theorem dL_in_6 : decode cL_in 6 = .ok (.ireturn, 1) := by decide +kernel
theorem dL_put_0 : decode cL_put 0 = .ok (.aload_n 1, 1) := by decide +kernel
theorem dL_put_1 : decode cL_put 1 = .ok (.astore_n 2, 1) := by decide +kernel
theorem dL_put_2 : decode cL_put 2 = .ok (.aload_n 2, 1) := by decide +kernel
theorem dL_put_3 : decode cL_put 3 = .ok (.invokevirtual 8, 3) := by decide +kernel
theorem dL_put_6 : decode cL_put 6 = .ok (.bipush 20, 2) := by decide +kernel
theorem dL_put_8 : decode cL_put 8 = .ok (.irem, 1) := by decide +kernel
theorem dL_put_9 : decode cL_put 9 = .ok (.ifCond .eq 26, 3) := by decide +kernel
theorem dL_put_12 : decode cL_put 12 = .ok (.new 14, 3) := by decide +kernel
theorem dL_put_15 : decode cL_put 15 = .ok (.dup, 1) := by decide +kernel
theorem dL_put_16 : decode cL_put 16 = .ok (.invokespecial 16, 3) := by decide +kernel
theorem dL_put_19 : decode cL_put 19 = .ok (.aload_n 2, 1) := by decide +kernel
theorem dL_put_20 : decode cL_put 20 = .ok (.invokevirtual 17, 3) := by decide +kernel
theorem dL_put_23 : decode cL_put 23 = .ok (.ldc 21, 2) := by decide +kernel
theorem dL_put_25 : decode cL_put 25 = .ok (.invokevirtual 17, 3) := by decide +kernel
theorem dL_put_28 : decode cL_put 28 = .ok (.invokevirtual 23, 3) := by decide +kernel
theorem dL_put_31 : decode cL_put 31 = .ok (.astore_n 2, 1) := by decide +kernel
theorem dL_put_32 : decode cL_put 32 = .ok (.goto (-30), 3) := by decide +kernel
theorem dL_put_35 : decode cL_put 35 = .ok (.iconst 0, 1) := by decide +kernel
theorem dL_put_36 : decode cL_put 36 = .ok (.istore_n 3, 1) := by decide +kernel
theorem dL_put_37 : decode cL_put 37 = .ok (.iload_n 3, 1) := by decide +kernel
theorem dL_put_38 : decode cL_put 38 = .ok (.aload_n 2, 1) := by decide +kernel
theorem dL_put_39 : decode cL_put 39 = .ok (.invokevirtual 8, 3) := by decide +kernel
theorem dL_put_42 : decode cL_put 42 = .ok (.if_icmp .ge 84, 3) := by decide +kernel
theorem dL_put_45 : decode cL_put 45 = .ok (.iconst 5, 1) := by decide +kernel
theorem dL_put_46 : decode cL_put 46 = .ok (.newarray .int, 2) := by decide +kernel
theorem dL_put_48 : decode cL_put 48 = .ok (.astore 4, 2) := by decide +kernel
theorem dL_put_50 : decode cL_put 50 = .ok (.iconst 0, 1) := by decide +kernel
theorem dL_put_51 : decode cL_put 51 = .ok (.istore 5, 2) := by decide +kernel
theorem dL_put_53 : decode cL_put 53 = .ok (.iload 5, 2) := by decide +kernel
theorem dL_put_55 : decode cL_put 55 = .ok (.bipush 20, 2) := by decide +kernel
theorem dL_put_57 : decode cL_put 57 = .ok (.if_icmp .ge 38, 3) := by decide +kernel
theorem dL_put_60 : decode cL_put 60 = .ok (.aload 4, 2) := by decide +kernel
theorem dL_put_62 : decode cL_put 62 = .ok (.iload 5, 2) := by decide +kernel
theorem dL_put_64 : decode cL_put 64 = .ok (.iconst 4, 1) := by decide +kernel
theorem dL_put_65 : decode cL_put 65 = .ok (.idiv, 1) := by decide +kernel
theorem dL_put_66 : decode cL_put 66 = .ok (.dup2, 1) := by decide +kernel
theorem dL_put_67 : decode cL_put 67 = .ok (.iaload, 1) := by decide +kernel
theorem dL_put_68 : decode cL_put 68 = .ok (.aload_n 2, 1) := by decide +kernel
theorem dL_put_69 : decode cL_put 69 = .ok (.iload_n 3, 1) := by decide +kernel
theorem dL_put_70 : decode cL_put 70 = .ok (.iload 5, 2) := by decide +kernel
theorem dL_put_72 : decode cL_put 72 = .ok (.iadd, 1) := by decide +kernel
theorem dL_put_73 : decode cL_put 73 = .ok (.invokevirtual 27, 3) := by decide +kernel
theorem dL_put_76 : decode cL_put 76 = .ok (.bipush 24, 2) := by decide +kernel
theorem dL_put_78 : decode cL_put 78 = .ok (.bipush 8, 2) := by decide +kernel
theorem dL_put_80 : decode cL_put 80 = .ok (.iload 5, 2) := by decide +kernel
theorem dL_put_82 : decode cL_put 82 = .ok (.iconst 4, 1) := by decide +kernel
theorem dL_put_83 : decode cL_put 83 = .ok (.irem, 1) := by decide +kernel
theorem dL_put_84 : decode cL_put 84 = .ok (.imul, 1) := by decide +kernel
theorem dL_put_85 : decode cL_put 85 = .ok (.isub, 1) := by decide +kernel
theorem dL_put_86 : decode cL_put 86 = .ok (.ishl, 1) := by decide +kernel
theorem dL_put_87 : decode cL_put 87 = .ok (.ior, 1) := by decide +kernel
theorem dL_put_88 : decode cL_put 88 = .ok (.iastore, 1) := by decide +kernel
theorem dL_put_89 : decode cL_put 89 = .ok (.iinc 5 1, 3) := by decide +kernel
theorem dL_put_92 : decode cL_put 92 = .ok (.goto (-39), 3) := by decide +kernel
theorem dL_put_95 : decode cL_put 95 = .ok (.aload_n 0, 1) := by decide +kernel
theorem dL_put_96 : decode cL_put 96 = .ok (.aload 4, 2) := by decide +kernel
theorem dL_put_98 : decode cL_put 98 = .ok (.iconst 0, 1) := by decide +kernel
theorem dL_put_99 : decode cL_put 99 = .ok (.iaload, 1) := by decide +kernel
theorem dL_put_100 : decode cL_put 100 = .ok (.aload 4, 2) := by decide +kernel
theorem dL_put_102 : decode cL_put 102 = .ok (.iconst 1, 1) := by decide +kernel
theorem dL_put_103 : decode cL_put 103 = .ok (.iaload, 1) := by decide +kernel
theorem dL_put_104 : decode cL_put 104 = .ok (.aload 4, 2) := by decide +kernel
theorem dL_put_106 : decode cL_put 106 = .ok (.iconst 2, 1) := by decide +kernel
theorem dL_put_107 : decode cL_put 107 = .ok (.iaload, 1) := by decide +kernel
theorem dL_put_108 : decode cL_put 108 = .ok (.aload 4, 2) := by decide +kernel
theorem dL_put_110 : decode cL_put 110 = .ok (.iconst 3, 1) := by decide +kernel
theorem dL_put_111 : decode cL_put 111 = .ok (.iaload, 1) := by decide +kernel
theorem dL_put_112 : decode cL_put 112 = .ok (.aload 4, 2) := by decide +kernel
theorem dL_put_114 : decode cL_put 114 = .ok (.iconst 4, 1) := by decide +kernel
theorem dL_put_115 : decode cL_put 115 = .ok (.iaload, 1) := by decide +kernel
theorem dL_put_116 : decode cL_put 116 = .ok (.invokevirtual 31, 3) := by decide +kernel
theorem dL_put_119 : decode cL_put 119 = .ok (.pop, 1) := by decide +kernel
theorem dL_put_120 : decode cL_put 120 = .ok (.iinc 3 20, 3) := by decide +kernel
theorem dL_put_123 : decode cL_put 123 = .ok (.goto (-86), 3) := by decide +kernel
theorem dL_put_126 : decode cL_put 126 = .ok (.return_, 1) := by decide +kernel
theorem dL_statements_0 : decode cL_statements 0 = .ok (.iconst 0, 1) := by decide +kernel
theorem dL_statements_1 : decode cL_statements 1 = .ok (.istore_n 1, 1) := by decide +kernel
theorem dL_statements_2 : decode cL_statements 2 = .ok (.iconst 0, 1) := by decide +kernel
theorem dL_statements_3 : decode cL_statements 3 = .ok (.istore_n 2, 1) := by decide +kernel
theorem dL_statements_4 : decode cL_statements 4 = .ok (.iload_n 2, 1) := by decide +kernel
theorem dL_statements_5 : decode cL_statements 5 = .ok (.aload_n 0, 1) := by decide +kernel
theorem dL_statements_6 : decode cL_statements 6 = .ok (.invokevirtual 8, 3) := by decide +kernel
theorem dL_statements_9 : decode cL_statements 9 = .ok (.if_icmp .ge 27, 3) := by decide +kernel
theorem dL_statements_12 : decode cL_statements 12 = .ok (.iload_n 1, 1) := by decide +kernel
theorem dL_statements_13 : decode cL_statements 13 = .ok (.aload_n 0, 1) := by decide +kernel
theorem dL_statements_14 : decode cL_statements 14 = .ok (.iload_n 2, 1) := by decide +kernel
theorem dL_statements_15 : decode cL_statements 15 = .ok (.invokevirtual 27, 3) := by decide +kernel
theorem dL_statements_18 : decode cL_statements 18 = .ok (.bipush 59, 2) := by decide +kernel
theorem dL_statements_20 : decode cL_statements 20 = .ok (.if_icmp .ne 7, 3) := by decide +kernel
theorem dL_statements_23 : decode cL_statements 23 = .ok (.iconst 1, 1) := by decide +kernel
theorem dL_statements_24 : decode cL_statements 24 = .ok (.goto 4, 3) := by decide +kernel
theorem dL_statements_27 : decode cL_statements 27 = .ok (.iconst 0, 1) := by decide +kernel
theorem dL_statements_28 : decode cL_statements 28 = .ok (.iadd, 1) := by decide +kernel
theorem dL_statements_29 : decode cL_statements 29 = .ok (.istore_n 1, 1) := by decide +kernel
theorem dL_statements_30 : decode cL_statements 30 = .ok (.iinc 2 1, 3) := by decide +kernel
theorem dL_statements_33 : decode cL_statements 33 = .ok (.goto (-29), 3) := by decide +kernel
theorem dL_statements_36 : decode cL_statements 36 = .ok (.iload_n 1, 1) := by decide +kernel
theorem dL_statements_37 : decode cL_statements 37 = .ok (.ireturn, 1) := by decide +kernel
theorem dL_stations_0 : decode cL_stations 0 = .ok (.iconst 2, 1) := by decide +kernel
theorem dL_stations_1 : decode cL_stations 1 = .ok (.aload_n 0, 1) := by decide +kernel
theorem dL_stations_2 : decode cL_stations 2 = .ok (.iconst 0, 1) := by decide +kernel
theorem dL_stations_3 : decode cL_stations 3 = .ok (.invokestatic 37, 3) := by decide +kernel
theorem dL_stations_6 : decode cL_stations 6 = .ok (.iconst 4, 1) := by decide +kernel
theorem dL_stations_7 : decode cL_stations 7 = .ok (.invokestatic 43, 3) := by decide +kernel
theorem dL_stations_10 : decode cL_stations 10 = .ok (.iadd, 1) := by decide +kernel
theorem dL_stations_11 : decode cL_stations 11 = .ok (.ireturn, 1) := by decide +kernel
theorem dL_carriers_0 : decode cL_carriers 0 = .ok (.iconst 1, 1) := by decide +kernel
theorem dL_carriers_1 : decode cL_carriers 1 = .ok (.aload_n 0, 1) := by decide +kernel
theorem dL_carriers_2 : decode cL_carriers 2 = .ok (.iconst 0, 1) := by decide +kernel
theorem dL_carriers_3 : decode cL_carriers 3 = .ok (.invokestatic 37, 3) := by decide +kernel
theorem dL_carriers_6 : decode cL_carriers 6 = .ok (.iconst 4, 1) := by decide +kernel
theorem dL_carriers_7 : decode cL_carriers 7 = .ok (.idiv, 1) := by decide +kernel
theorem dL_carriers_8 : decode cL_carriers 8 = .ok (.iconst 3, 1) := by decide +kernel
theorem dL_carriers_9 : decode cL_carriers 9 = .ok (.invokestatic 43, 3) := by decide +kernel
theorem dL_carriers_12 : decode cL_carriers 12 = .ok (.iadd, 1) := by decide +kernel
theorem dL_carriers_13 : decode cL_carriers 13 = .ok (.ireturn, 1) := by decide +kernel
theorem dL_length_0 : decode cL_length 0 = .ok (.sipush 300, 3) := by decide +kernel
theorem dL_length_3 : decode cL_length 3 = .ok (.aload_n 0, 1) := by decide +kernel
theorem dL_length_4 : decode cL_length 4 = .ok (.iconst 0, 1) := by decide +kernel
theorem dL_length_5 : decode cL_length 5 = .ok (.invokestatic 37, 3) := by decide +kernel
theorem dL_length_8 : decode cL_length 8 = .ok (.bipush 16, 2) := by decide +kernel
theorem dL_length_10 : decode cL_length 10 = .ok (.idiv, 1) := by decide +kernel
theorem dL_length_11 : decode cL_length 11 = .ok (.sipush 700, 3) := by decide +kernel
theorem dL_length_14 : decode cL_length 14 = .ok (.invokestatic 43, 3) := by decide +kernel
theorem dL_length_17 : decode cL_length 17 = .ok (.iadd, 1) := by decide +kernel
theorem dL_length_18 : decode cL_length 18 = .ok (.ireturn, 1) := by decide +kernel
theorem dL_guard_0 : decode cL_guard 0 = .ok (.aload_n 0, 1) := by decide +kernel
theorem dL_guard_1 : decode cL_guard 1 = .ok (.iconst 0, 1) := by decide +kernel
theorem dL_guard_2 : decode cL_guard 2 = .ok (.invokestatic 37, 3) := by decide +kernel
theorem dL_guard_5 : decode cL_guard 5 = .ok (.sipush 16384, 3) := by decide +kernel
theorem dL_guard_8 : decode cL_guard 8 = .ok (.idiv, 1) := by decide +kernel
theorem dL_guard_9 : decode cL_guard 9 = .ok (.bipush 30, 2) := by decide +kernel
theorem dL_guard_11 : decode cL_guard 11 = .ok (.invokestatic 43, 3) := by decide +kernel
theorem dL_guard_14 : decode cL_guard 14 = .ok (.ireturn, 1) := by decide +kernel
theorem dL_delay_0 : decode cL_delay 0 = .ok (.aload_n 0, 1) := by decide +kernel
theorem dL_delay_1 : decode cL_delay 1 = .ok (.iconst 1, 1) := by decide +kernel
theorem dL_delay_2 : decode cL_delay 2 = .ok (.iload_n 1, 1) := by decide +kernel
theorem dL_delay_3 : decode cL_delay 3 = .ok (.iadd, 1) := by decide +kernel
theorem dL_delay_4 : decode cL_delay 4 = .ok (.invokestatic 37, 3) := by decide +kernel
theorem dL_delay_7 : decode cL_delay 7 = .ok (.sipush 2000, 3) := by decide +kernel
theorem dL_delay_10 : decode cL_delay 10 = .ok (.invokestatic 43, 3) := by decide +kernel
theorem dL_delay_13 : decode cL_delay 13 = .ok (.ireturn, 1) := by decide +kernel
theorem dL_drift_0 : decode cL_drift 0 = .ok (.aload_n 0, 1) := by decide +kernel
theorem dL_drift_1 : decode cL_drift 1 = .ok (.iconst 1, 1) := by decide +kernel
theorem dL_drift_2 : decode cL_drift 2 = .ok (.iload_n 1, 1) := by decide +kernel
theorem dL_drift_3 : decode cL_drift 3 = .ok (.iadd, 1) := by decide +kernel
theorem dL_drift_4 : decode cL_drift 4 = .ok (.invokestatic 37, 3) := by decide +kernel
theorem dL_drift_7 : decode cL_drift 7 = .ok (.sipush 2048, 3) := by decide +kernel
theorem dL_drift_10 : decode cL_drift 10 = .ok (.idiv, 1) := by decide +kernel
theorem dL_drift_11 : decode cL_drift 11 = .ok (.bipush 21, 2) := by decide +kernel
theorem dL_drift_13 : decode cL_drift 13 = .ok (.invokestatic 43, 3) := by decide +kernel
theorem dL_drift_16 : decode cL_drift 16 = .ok (.bipush 10, 2) := by decide +kernel
theorem dL_drift_18 : decode cL_drift 18 = .ok (.isub, 1) := by decide +kernel
theorem dL_drift_19 : decode cL_drift 19 = .ok (.ireturn, 1) := by decide +kernel
theorem dL_nominal_0 : decode cL_nominal 0 = .ok (.bipush 100, 2) := by decide +kernel
theorem dL_nominal_2 : decode cL_nominal 2 = .ok (.aload_n 0, 1) := by decide +kernel
theorem dL_nominal_3 : decode cL_nominal 3 = .ok (.iconst 1, 1) := by decide +kernel
theorem dL_nominal_4 : decode cL_nominal 4 = .ok (.iload_n 1, 1) := by decide +kernel
theorem dL_nominal_5 : decode cL_nominal 5 = .ok (.iadd, 1) := by decide +kernel
theorem dL_nominal_6 : decode cL_nominal 6 = .ok (.invokestatic 37, 3) := by decide +kernel
theorem dL_nominal_9 : decode cL_nominal 9 = .ok (.ldc 47, 2) := by decide +kernel
theorem dL_nominal_11 : decode cL_nominal 11 = .ok (.idiv, 1) := by decide +kernel
theorem dL_nominal_12 : decode cL_nominal 12 = .ok (.sipush 300, 3) := by decide +kernel
theorem dL_nominal_15 : decode cL_nominal 15 = .ok (.invokestatic 43, 3) := by decide +kernel
theorem dL_nominal_18 : decode cL_nominal 18 = .ok (.iadd, 1) := by decide +kernel
theorem dL_nominal_19 : decode cL_nominal 19 = .ok (.ireturn, 1) := by decide +kernel
theorem dL_greatest_0 : decode cL_greatest 0 = .ok (.aload_n 0, 1) := by decide +kernel
theorem dL_greatest_1 : decode cL_greatest 1 = .ok (.iload_n 1, 1) := by decide +kernel
theorem dL_greatest_2 : decode cL_greatest 2 = .ok (.invokestatic 48, 3) := by decide +kernel
theorem dL_greatest_5 : decode cL_greatest 5 = .ok (.aload_n 0, 1) := by decide +kernel
theorem dL_greatest_6 : decode cL_greatest 6 = .ok (.iconst 1, 1) := by decide +kernel
theorem dL_greatest_7 : decode cL_greatest 7 = .ok (.iload_n 1, 1) := by decide +kernel
theorem dL_greatest_8 : decode cL_greatest 8 = .ok (.iadd, 1) := by decide +kernel
theorem dL_greatest_9 : decode cL_greatest 9 = .ok (.invokestatic 37, 3) := by decide +kernel
theorem dL_greatest_12 : decode cL_greatest 12 = .ok (.bipush 25, 2) := by decide +kernel
theorem dL_greatest_14 : decode cL_greatest 14 = .ok (.ishr, 1) := by decide +kernel
theorem dL_greatest_15 : decode cL_greatest 15 = .ok (.bipush 60, 2) := by decide +kernel
theorem dL_greatest_17 : decode cL_greatest 17 = .ok (.invokestatic 43, 3) := by decide +kernel
theorem dL_greatest_20 : decode cL_greatest 20 = .ok (.iadd, 1) := by decide +kernel
theorem dL_greatest_21 : decode cL_greatest 21 = .ok (.ireturn, 1) := by decide +kernel
theorem dL_rains_0 : decode cL_rains 0 = .ok (.aload_n 0, 1) := by decide +kernel
theorem dL_rains_1 : decode cL_rains 1 = .ok (.iconst 0, 1) := by decide +kernel
theorem dL_rains_2 : decode cL_rains 2 = .ok (.invokestatic 37, 3) := by decide +kernel
theorem dL_rains_5 : decode cL_rains 5 = .ok (.ldc 51, 2) := by decide +kernel
theorem dL_rains_7 : decode cL_rains 7 = .ok (.idiv, 1) := by decide +kernel
theorem dL_rains_8 : decode cL_rains 8 = .ok (.iconst 4, 1) := by decide +kernel
theorem dL_rains_9 : decode cL_rains 9 = .ok (.invokestatic 43, 3) := by decide +kernel
theorem dL_rains_12 : decode cL_rains 12 = .ok (.ireturn, 1) := by decide +kernel
theorem dL_rain_0 : decode cL_rain 0 = .ok (.aload_n 0, 1) := by decide +kernel
theorem dL_rain_1 : decode cL_rain 1 = .ok (.bipush 6, 2) := by decide +kernel
theorem dL_rain_3 : decode cL_rain 3 = .ok (.iload_n 1, 1) := by decide +kernel
theorem dL_rain_4 : decode cL_rain 4 = .ok (.iadd, 1) := by decide +kernel
theorem dL_rain_5 : decode cL_rain 5 = .ok (.invokestatic 37, 3) := by decide +kernel
theorem dL_rain_8 : decode cL_rain 8 = .ok (.istore_n 3, 1) := by decide +kernel
theorem dL_rain_9 : decode cL_rain 9 = .ok (.iload_n 2, 1) := by decide +kernel
theorem dL_rain_10 : decode cL_rain 10 = .ok (.ifCond .ne 14, 3) := by decide +kernel
theorem dL_rain_13 : decode cL_rain 13 = .ok (.iload_n 3, 1) := by decide +kernel
theorem dL_rain_14 : decode cL_rain 14 = .ok (.aload_n 0, 1) := by decide +kernel
theorem dL_rain_15 : decode cL_rain 15 = .ok (.invokestatic 52, 3) := by decide +kernel
theorem dL_rain_18 : decode cL_rain 18 = .ok (.invokestatic 43, 3) := by decide +kernel
theorem dL_rain_21 : decode cL_rain 21 = .ok (.goto 58, 3) := by decide +kernel
theorem dL_rain_24 : decode cL_rain 24 = .ok (.iload_n 2, 1) := by decide +kernel
theorem dL_rain_25 : decode cL_rain 25 = .ok (.iconst 1, 1) := by decide +kernel
theorem dL_rain_26 : decode cL_rain 26 = .ok (.if_icmp .ne 15, 3) := by decide +kernel
theorem dL_rain_29 : decode cL_rain 29 = .ok (.iload_n 3, 1) := by decide +kernel
theorem dL_rain_30 : decode cL_rain 30 = .ok (.bipush 8, 2) := by decide +kernel
theorem dL_rain_32 : decode cL_rain 32 = .ok (.idiv, 1) := by decide +kernel
theorem dL_rain_33 : decode cL_rain 33 = .ok (.bipush 15, 2) := by decide +kernel
theorem dL_rain_35 : decode cL_rain 35 = .ok (.invokestatic 43, 3) := by decide +kernel
theorem dL_rain_38 : decode cL_rain 38 = .ok (.goto 41, 3) := by decide +kernel
theorem dL_rain_41 : decode cL_rain 41 = .ok (.iload_n 2, 1) := by decide +kernel
theorem dL_rain_42 : decode cL_rain 42 = .ok (.iconst 2, 1) := by decide +kernel
theorem dL_rain_43 : decode cL_rain 43 = .ok (.if_icmp .ne 23, 3) := by decide +kernel
theorem dL_rain_46 : decode cL_rain 46 = .ok (.aload_n 0, 1) := by decide +kernel
theorem dL_rain_47 : decode cL_rain 47 = .ok (.iload_n 1, 1) := by decide +kernel
theorem dL_rain_48 : decode cL_rain 48 = .ok (.iconst 1, 1) := by decide +kernel
theorem dL_rain_49 : decode cL_rain 49 = .ok (.invokestatic 56, 3) := by decide +kernel
theorem dL_rain_52 : decode cL_rain 52 = .ok (.iload_n 3, 1) := by decide +kernel
theorem dL_rain_53 : decode cL_rain 53 = .ok (.sipush 128, 3) := by decide +kernel
theorem dL_rain_56 : decode cL_rain 56 = .ok (.idiv, 1) := by decide +kernel
theorem dL_rain_57 : decode cL_rain 57 = .ok (.bipush 15, 2) := by decide +kernel
theorem dL_rain_59 : decode cL_rain 59 = .ok (.invokestatic 43, 3) := by decide +kernel
theorem dL_rain_62 : decode cL_rain 62 = .ok (.iadd, 1) := by decide +kernel
theorem dL_rain_63 : decode cL_rain 63 = .ok (.goto 16, 3) := by decide +kernel
theorem dL_rain_66 : decode cL_rain 66 = .ok (.iconst 1, 1) := by decide +kernel
theorem dL_rain_67 : decode cL_rain 67 = .ok (.iload_n 3, 1) := by decide +kernel
theorem dL_rain_68 : decode cL_rain 68 = .ok (.sipush 2048, 3) := by decide +kernel
theorem dL_rain_71 : decode cL_rain 71 = .ok (.idiv, 1) := by decide +kernel
theorem dL_rain_72 : decode cL_rain 72 = .ok (.sipush 150, 3) := by decide +kernel
theorem dL_rain_75 : decode cL_rain 75 = .ok (.invokestatic 43, 3) := by decide +kernel
theorem dL_rain_78 : decode cL_rain 78 = .ok (.iadd, 1) := by decide +kernel
theorem dL_rain_79 : decode cL_rain 79 = .ok (.ireturn, 1) := by decide +kernel
theorem dL_calls_0 : decode cL_calls 0 = .ok (.aload_n 0, 1) := by decide +kernel
theorem dL_calls_1 : decode cL_calls 1 = .ok (.bipush 9, 2) := by decide +kernel
theorem dL_calls_3 : decode cL_calls 3 = .ok (.invokestatic 37, 3) := by decide +kernel
theorem dL_calls_6 : decode cL_calls 6 = .ok (.iconst 5, 1) := by decide +kernel
theorem dL_calls_7 : decode cL_calls 7 = .ok (.invokestatic 43, 3) := by decide +kernel
theorem dL_calls_10 : decode cL_calls 10 = .ok (.ireturn, 1) := by decide +kernel
theorem dL_call_0 : decode cL_call 0 = .ok (.aload_n 0, 1) := by decide +kernel
theorem dL_call_1 : decode cL_call 1 = .ok (.bipush 10, 2) := by decide +kernel
theorem dL_call_3 : decode cL_call 3 = .ok (.iload_n 1, 1) := by decide +kernel
theorem dL_call_4 : decode cL_call 4 = .ok (.iadd, 1) := by decide +kernel
theorem dL_call_5 : decode cL_call 5 = .ok (.invokestatic 37, 3) := by decide +kernel
theorem dL_call_8 : decode cL_call 8 = .ok (.istore_n 3, 1) := by decide +kernel
theorem dL_call_9 : decode cL_call 9 = .ok (.iload_n 3, 1) := by decide +kernel
theorem dL_call_10 : decode cL_call 10 = .ok (.aload_n 0, 1) := by decide +kernel
theorem dL_call_11 : decode cL_call 11 = .ok (.invokestatic 52, 3) := by decide +kernel
theorem dL_call_14 : decode cL_call 14 = .ok (.invokestatic 43, 3) := by decide +kernel
theorem dL_call_17 : decode cL_call 17 = .ok (.istore 4, 2) := by decide +kernel
theorem dL_call_19 : decode cL_call 19 = .ok (.iload_n 2, 1) := by decide +kernel
theorem dL_call_20 : decode cL_call 20 = .ok (.ifCond .ne 8, 3) := by decide +kernel
theorem dL_call_23 : decode cL_call 23 = .ok (.iload 4, 2) := by decide +kernel
theorem dL_call_25 : decode cL_call 25 = .ok (.goto 82, 3) := by decide +kernel
theorem dL_call_28 : decode cL_call 28 = .ok (.iload_n 2, 1) := by decide +kernel
theorem dL_call_29 : decode cL_call 29 = .ok (.iconst 1, 1) := by decide +kernel
theorem dL_call_30 : decode cL_call 30 = .ok (.if_icmp .ne 29, 3) := by decide +kernel
theorem dL_call_33 : decode cL_call 33 = .ok (.iload 4, 2) := by decide +kernel
theorem dL_call_35 : decode cL_call 35 = .ok (.iconst 1, 1) := by decide +kernel
theorem dL_call_36 : decode cL_call 36 = .ok (.iadd, 1) := by decide +kernel
theorem dL_call_37 : decode cL_call 37 = .ok (.iload_n 3, 1) := by decide +kernel
theorem dL_call_38 : decode cL_call 38 = .ok (.bipush 8, 2) := by decide +kernel
theorem dL_call_40 : decode cL_call 40 = .ok (.idiv, 1) := by decide +kernel
theorem dL_call_41 : decode cL_call 41 = .ok (.aload_n 0, 1) := by decide +kernel
theorem dL_call_42 : decode cL_call 42 = .ok (.invokestatic 52, 3) := by decide +kernel
theorem dL_call_45 : decode cL_call 45 = .ok (.iconst 1, 1) := by decide +kernel
theorem dL_call_46 : decode cL_call 46 = .ok (.isub, 1) := by decide +kernel
theorem dL_call_47 : decode cL_call 47 = .ok (.invokestatic 43, 3) := by decide +kernel
theorem dL_call_50 : decode cL_call 50 = .ok (.iadd, 1) := by decide +kernel
theorem dL_call_51 : decode cL_call 51 = .ok (.aload_n 0, 1) := by decide +kernel
theorem dL_call_52 : decode cL_call 52 = .ok (.invokestatic 52, 3) := by decide +kernel
theorem dL_call_55 : decode cL_call 55 = .ok (.irem, 1) := by decide +kernel
theorem dL_call_56 : decode cL_call 56 = .ok (.goto 51, 3) := by decide +kernel
theorem dL_call_59 : decode cL_call 59 = .ok (.iload_n 2, 1) := by decide +kernel
theorem dL_call_60 : decode cL_call 60 = .ok (.iconst 2, 1) := by decide +kernel
theorem dL_call_61 : decode cL_call 61 = .ok (.if_icmp .ne 14, 3) := by decide +kernel
theorem dL_call_64 : decode cL_call 64 = .ok (.iload_n 3, 1) := by decide +kernel
theorem dL_call_65 : decode cL_call 65 = .ok (.bipush 64, 2) := by decide +kernel
theorem dL_call_67 : decode cL_call 67 = .ok (.idiv, 1) := by decide +kernel
theorem dL_call_68 : decode cL_call 68 = .ok (.iconst 4, 1) := by decide +kernel
theorem dL_call_69 : decode cL_call 69 = .ok (.invokestatic 43, 3) := by decide +kernel
theorem dL_call_72 : decode cL_call 72 = .ok (.goto 35, 3) := by decide +kernel
theorem dL_call_75 : decode cL_call 75 = .ok (.iload_n 2, 1) := by decide +kernel
theorem dL_call_76 : decode cL_call 76 = .ok (.iconst 3, 1) := by decide +kernel
theorem dL_call_77 : decode cL_call 77 = .ok (.if_icmp .ne 19, 3) := by decide +kernel
theorem dL_call_80 : decode cL_call 80 = .ok (.iconst 1, 1) := by decide +kernel
theorem dL_call_81 : decode cL_call 81 = .ok (.iload_n 3, 1) := by decide +kernel
theorem dL_call_82 : decode cL_call 82 = .ok (.sipush 256, 3) := by decide +kernel
theorem dL_call_85 : decode cL_call 85 = .ok (.idiv, 1) := by decide +kernel
theorem dL_call_86 : decode cL_call 86 = .ok (.sipush 250, 3) := by decide +kernel
theorem dL_call_89 : decode cL_call 89 = .ok (.invokestatic 43, 3) := by decide +kernel
theorem dL_call_92 : decode cL_call 92 = .ok (.iadd, 1) := by decide +kernel
theorem dL_call_93 : decode cL_call 93 = .ok (.goto 14, 3) := by decide +kernel
theorem dL_call_96 : decode cL_call 96 = .ok (.iconst 1, 1) := by decide +kernel
theorem dL_call_97 : decode cL_call 97 = .ok (.iload_n 3, 1) := by decide +kernel
theorem dL_call_98 : decode cL_call 98 = .ok (.ldc 47, 2) := by decide +kernel
theorem dL_call_100 : decode cL_call 100 = .ok (.idiv, 1) := by decide +kernel
theorem dL_call_101 : decode cL_call 101 = .ok (.bipush 20, 2) := by decide +kernel
theorem dL_call_103 : decode cL_call 103 = .ok (.invokestatic 43, 3) := by decide +kernel
theorem dL_call_106 : decode cL_call 106 = .ok (.iadd, 1) := by decide +kernel
theorem dL_call_107 : decode cL_call 107 = .ok (.ireturn, 1) := by decide +kernel
theorem dL_name_0 : decode cL_name 0 = .ok (.new 14, 3) := by decide +kernel
theorem dL_name_3 : decode cL_name 3 = .ok (.dup, 1) := by decide +kernel
theorem dL_name_4 : decode cL_name 4 = .ok (.invokespecial 16, 3) := by decide +kernel
theorem dL_name_7 : decode cL_name 7 = .ok (.ldc 60, 2) := by decide +kernel
theorem dL_name_9 : decode cL_name 9 = .ok (.invokevirtual 17, 3) := by decide +kernel
theorem dL_name_12 : decode cL_name 12 = .ok (.bipush 97, 2) := by decide +kernel
theorem dL_name_14 : decode cL_name 14 = .ok (.iload_n 0, 1) := by decide +kernel
theorem dL_name_15 : decode cL_name 15 = .ok (.iadd, 1) := by decide +kernel
theorem dL_name_16 : decode cL_name 16 = .ok (.i2c, 1) := by decide +kernel
theorem dL_name_17 : decode cL_name 17 = .ok (.invokevirtual 62, 3) := by decide +kernel
theorem dL_name_20 : decode cL_name 20 = .ok (.invokevirtual 23, 3) := by decide +kernel
theorem dL_name_23 : decode cL_name 23 = .ok (.areturn, 1) := by decide +kernel
theorem dL_text_0 : decode cL_text 0 = .ok (.new 14, 3) := by decide +kernel
theorem dL_text_3 : decode cL_text 3 = .ok (.dup, 1) := by decide +kernel
theorem dL_text_4 : decode cL_text 4 = .ok (.invokespecial 16, 3) := by decide +kernel
theorem dL_text_7 : decode cL_text 7 = .ok (.ldc 65, 2) := by decide +kernel
theorem dL_text_9 : decode cL_text 9 = .ok (.invokevirtual 17, 3) := by decide +kernel
theorem dL_text_12 : decode cL_text 12 = .ok (.aload_n 0, 1) := by decide +kernel
theorem dL_text_13 : decode cL_text 13 = .ok (.invokestatic 67, 3) := by decide +kernel
theorem dL_text_16 : decode cL_text 16 = .ok (.invokevirtual 70, 3) := by decide +kernel
theorem dL_text_19 : decode cL_text 19 = .ok (.ldc 73, 2) := by decide +kernel
theorem dL_text_21 : decode cL_text 21 = .ok (.invokevirtual 17, 3) := by decide +kernel
theorem dL_text_24 : decode cL_text 24 = .ok (.aload_n 0, 1) := by decide +kernel
theorem dL_text_25 : decode cL_text 25 = .ok (.invokestatic 75, 3) := by decide +kernel
theorem dL_text_28 : decode cL_text 28 = .ok (.invokevirtual 70, 3) := by decide +kernel
theorem dL_text_31 : decode cL_text 31 = .ok (.ldc 77, 2) := by decide +kernel
theorem dL_text_33 : decode cL_text 33 = .ok (.invokevirtual 17, 3) := by decide +kernel
theorem dL_text_36 : decode cL_text 36 = .ok (.aload_n 0, 1) := by decide +kernel
theorem dL_text_37 : decode cL_text 37 = .ok (.invokestatic 79, 3) := by decide +kernel
theorem dL_text_40 : decode cL_text 40 = .ok (.invokevirtual 70, 3) := by decide +kernel
theorem dL_text_43 : decode cL_text 43 = .ok (.ldc 82, 2) := by decide +kernel
theorem dL_text_45 : decode cL_text 45 = .ok (.invokevirtual 17, 3) := by decide +kernel
theorem dL_text_48 : decode cL_text 48 = .ok (.aload_n 0, 1) := by decide +kernel
theorem dL_text_49 : decode cL_text 49 = .ok (.bipush 9, 2) := by decide +kernel
theorem dL_text_51 : decode cL_text 51 = .ok (.invokestatic 37, 3) := by decide +kernel
theorem dL_text_54 : decode cL_text 54 = .ok (.bipush 8, 2) := by decide +kernel
theorem dL_text_56 : decode cL_text 56 = .ok (.idiv, 1) := by decide +kernel
theorem dL_text_57 : decode cL_text 57 = .ok (.sipush 200, 3) := by decide +kernel
theorem dL_text_60 : decode cL_text 60 = .ok (.invokestatic 43, 3) := by decide +kernel
theorem dL_text_63 : decode cL_text 63 = .ok (.invokevirtual 70, 3) := by decide +kernel
theorem dL_text_66 : decode cL_text 66 = .ok (.ldc 84, 2) := by decide +kernel
theorem dL_text_68 : decode cL_text 68 = .ok (.invokevirtual 17, 3) := by decide +kernel
theorem dL_text_71 : decode cL_text 71 = .ok (.invokevirtual 23, 3) := by decide +kernel
theorem dL_text_74 : decode cL_text 74 = .ok (.astore_n 1, 1) := by decide +kernel
theorem dL_text_75 : decode cL_text 75 = .ok (.iconst 0, 1) := by decide +kernel
theorem dL_text_76 : decode cL_text 76 = .ok (.istore_n 2, 1) := by decide +kernel
theorem dL_text_77 : decode cL_text 77 = .ok (.iload_n 2, 1) := by decide +kernel
theorem dL_text_78 : decode cL_text 78 = .ok (.aload_n 0, 1) := by decide +kernel
theorem dL_text_79 : decode cL_text 79 = .ok (.invokestatic 52, 3) := by decide +kernel
theorem dL_text_82 : decode cL_text 82 = .ok (.if_icmp .ge 114, 3) := by decide +kernel
theorem dL_text_85 : decode cL_text 85 = .ok (.new 14, 3) := by decide +kernel
theorem dL_text_88 : decode cL_text 88 = .ok (.dup, 1) := by decide +kernel
theorem dL_text_89 : decode cL_text 89 = .ok (.invokespecial 16, 3) := by decide +kernel
theorem dL_text_92 : decode cL_text 92 = .ok (.aload_n 1, 1) := by decide +kernel
theorem dL_text_93 : decode cL_text 93 = .ok (.invokevirtual 17, 3) := by decide +kernel
theorem dL_text_96 : decode cL_text 96 = .ok (.ldc 86, 2) := by decide +kernel
theorem dL_text_98 : decode cL_text 98 = .ok (.invokevirtual 17, 3) := by decide +kernel
theorem dL_text_101 : decode cL_text 101 = .ok (.iload_n 2, 1) := by decide +kernel
theorem dL_text_102 : decode cL_text 102 = .ok (.invokestatic 88, 3) := by decide +kernel
theorem dL_text_105 : decode cL_text 105 = .ok (.invokevirtual 17, 3) := by decide +kernel
theorem dL_text_108 : decode cL_text 108 = .ok (.ldc 21, 2) := by decide +kernel
theorem dL_text_110 : decode cL_text 110 = .ok (.invokevirtual 17, 3) := by decide +kernel
theorem dL_text_113 : decode cL_text 113 = .ok (.aload_n 0, 1) := by decide +kernel
theorem dL_text_114 : decode cL_text 114 = .ok (.iload_n 2, 1) := by decide +kernel
theorem dL_text_115 : decode cL_text 115 = .ok (.invokestatic 92, 3) := by decide +kernel
theorem dL_text_118 : decode cL_text 118 = .ok (.invokevirtual 70, 3) := by decide +kernel
theorem dL_text_121 : decode cL_text 121 = .ok (.ldc 21, 2) := by decide +kernel
theorem dL_text_123 : decode cL_text 123 = .ok (.invokevirtual 17, 3) := by decide +kernel
theorem dL_text_126 : decode cL_text 126 = .ok (.aload_n 0, 1) := by decide +kernel
theorem dL_text_127 : decode cL_text 127 = .ok (.iload_n 2, 1) := by decide +kernel
theorem dL_text_128 : decode cL_text 128 = .ok (.invokestatic 95, 3) := by decide +kernel
theorem dL_text_131 : decode cL_text 131 = .ok (.ifCond .ge 8, 3) := by decide +kernel
theorem dL_text_134 : decode cL_text 134 = .ok (.ldc 98, 2) := by decide +kernel
theorem dL_text_136 : decode cL_text 136 = .ok (.goto 5, 3) := by decide +kernel
theorem dL_text_139 : decode cL_text 139 = .ok (.ldc 100, 2) := by decide +kernel
theorem dL_text_141 : decode cL_text 141 = .ok (.invokevirtual 17, 3) := by decide +kernel
theorem dL_text_144 : decode cL_text 144 = .ok (.aload_n 0, 1) := by decide +kernel
theorem dL_text_145 : decode cL_text 145 = .ok (.iload_n 2, 1) := by decide +kernel
theorem dL_text_146 : decode cL_text 146 = .ok (.invokestatic 95, 3) := by decide +kernel
theorem dL_text_149 : decode cL_text 149 = .ok (.invokestatic 102, 3) := by decide +kernel
theorem dL_text_152 : decode cL_text 152 = .ok (.invokevirtual 70, 3) := by decide +kernel
theorem dL_text_155 : decode cL_text 155 = .ok (.ldc 21, 2) := by decide +kernel
theorem dL_text_157 : decode cL_text 157 = .ok (.invokevirtual 17, 3) := by decide +kernel
theorem dL_text_160 : decode cL_text 160 = .ok (.aload_n 0, 1) := by decide +kernel
theorem dL_text_161 : decode cL_text 161 = .ok (.iload_n 2, 1) := by decide +kernel
theorem dL_text_162 : decode cL_text 162 = .ok (.invokestatic 48, 3) := by decide +kernel
theorem dL_text_165 : decode cL_text 165 = .ok (.invokevirtual 70, 3) := by decide +kernel
theorem dL_text_168 : decode cL_text 168 = .ok (.ldc 21, 2) := by decide +kernel
theorem dL_text_170 : decode cL_text 170 = .ok (.invokevirtual 17, 3) := by decide +kernel
theorem dL_text_173 : decode cL_text 173 = .ok (.aload_n 0, 1) := by decide +kernel
theorem dL_text_174 : decode cL_text 174 = .ok (.iload_n 2, 1) := by decide +kernel
theorem dL_text_175 : decode cL_text 175 = .ok (.invokestatic 108, 3) := by decide +kernel
theorem dL_text_178 : decode cL_text 178 = .ok (.invokevirtual 70, 3) := by decide +kernel
theorem dL_text_181 : decode cL_text 181 = .ok (.ldc 84, 2) := by decide +kernel
theorem dL_text_183 : decode cL_text 183 = .ok (.invokevirtual 17, 3) := by decide +kernel
theorem dL_text_186 : decode cL_text 186 = .ok (.invokevirtual 23, 3) := by decide +kernel
theorem dL_text_189 : decode cL_text 189 = .ok (.astore_n 1, 1) := by decide +kernel
theorem dL_text_190 : decode cL_text 190 = .ok (.iinc 2 1, 3) := by decide +kernel
theorem dL_text_193 : decode cL_text 193 = .ok (.goto (-116), 3) := by decide +kernel
theorem dL_text_196 : decode cL_text 196 = .ok (.iconst 0, 1) := by decide +kernel
theorem dL_text_197 : decode cL_text 197 = .ok (.istore_n 2, 1) := by decide +kernel
theorem dL_text_198 : decode cL_text 198 = .ok (.iload_n 2, 1) := by decide +kernel
theorem dL_text_199 : decode cL_text 199 = .ok (.aload_n 0, 1) := by decide +kernel
theorem dL_text_200 : decode cL_text 200 = .ok (.invokestatic 111, 3) := by decide +kernel
theorem dL_text_203 : decode cL_text 203 = .ok (.if_icmp .ge 88, 3) := by decide +kernel
theorem dL_text_206 : decode cL_text 206 = .ok (.new 14, 3) := by decide +kernel
theorem dL_text_209 : decode cL_text 209 = .ok (.dup, 1) := by decide +kernel
theorem dL_text_210 : decode cL_text 210 = .ok (.invokespecial 16, 3) := by decide +kernel
theorem dL_text_213 : decode cL_text 213 = .ok (.aload_n 1, 1) := by decide +kernel
theorem dL_text_214 : decode cL_text 214 = .ok (.invokevirtual 17, 3) := by decide +kernel
theorem dL_text_217 : decode cL_text 217 = .ok (.ldc 114, 2) := by decide +kernel
theorem dL_text_219 : decode cL_text 219 = .ok (.invokevirtual 17, 3) := by decide +kernel
theorem dL_text_222 : decode cL_text 222 = .ok (.aload_n 0, 1) := by decide +kernel
theorem dL_text_223 : decode cL_text 223 = .ok (.iload_n 2, 1) := by decide +kernel
theorem dL_text_224 : decode cL_text 224 = .ok (.iconst 0, 1) := by decide +kernel
theorem dL_text_225 : decode cL_text 225 = .ok (.invokestatic 56, 3) := by decide +kernel
theorem dL_text_228 : decode cL_text 228 = .ok (.invokestatic 88, 3) := by decide +kernel
theorem dL_text_231 : decode cL_text 231 = .ok (.invokevirtual 17, 3) := by decide +kernel
theorem dL_text_234 : decode cL_text 234 = .ok (.ldc 21, 2) := by decide +kernel
theorem dL_text_236 : decode cL_text 236 = .ok (.invokevirtual 17, 3) := by decide +kernel
theorem dL_text_239 : decode cL_text 239 = .ok (.aload_n 0, 1) := by decide +kernel
theorem dL_text_240 : decode cL_text 240 = .ok (.iload_n 2, 1) := by decide +kernel
theorem dL_text_241 : decode cL_text 241 = .ok (.iconst 1, 1) := by decide +kernel
theorem dL_text_242 : decode cL_text 242 = .ok (.invokestatic 56, 3) := by decide +kernel
theorem dL_text_245 : decode cL_text 245 = .ok (.invokevirtual 70, 3) := by decide +kernel
theorem dL_text_248 : decode cL_text 248 = .ok (.ldc 21, 2) := by decide +kernel
theorem dL_text_250 : decode cL_text 250 = .ok (.invokevirtual 17, 3) := by decide +kernel
theorem dL_text_253 : decode cL_text 253 = .ok (.aload_n 0, 1) := by decide +kernel
theorem dL_text_254 : decode cL_text 254 = .ok (.iload_n 2, 1) := by decide +kernel
theorem dL_text_255 : decode cL_text 255 = .ok (.iconst 2, 1) := by decide +kernel
theorem dL_text_256 : decode cL_text 256 = .ok (.invokestatic 56, 3) := by decide +kernel
theorem dL_text_259 : decode cL_text 259 = .ok (.invokevirtual 70, 3) := by decide +kernel
theorem dL_text_262 : decode cL_text 262 = .ok (.ldc 21, 2) := by decide +kernel
theorem dL_text_264 : decode cL_text 264 = .ok (.invokevirtual 17, 3) := by decide +kernel
theorem dL_text_267 : decode cL_text 267 = .ok (.aload_n 0, 1) := by decide +kernel
theorem dL_text_268 : decode cL_text 268 = .ok (.iload_n 2, 1) := by decide +kernel
theorem dL_text_269 : decode cL_text 269 = .ok (.iconst 3, 1) := by decide +kernel
theorem dL_text_270 : decode cL_text 270 = .ok (.invokestatic 56, 3) := by decide +kernel
theorem dL_text_273 : decode cL_text 273 = .ok (.invokevirtual 70, 3) := by decide +kernel
theorem dL_text_276 : decode cL_text 276 = .ok (.ldc 84, 2) := by decide +kernel
theorem dL_text_278 : decode cL_text 278 = .ok (.invokevirtual 17, 3) := by decide +kernel
theorem dL_text_281 : decode cL_text 281 = .ok (.invokevirtual 23, 3) := by decide +kernel
theorem dL_text_284 : decode cL_text 284 = .ok (.astore_n 1, 1) := by decide +kernel
theorem dL_text_285 : decode cL_text 285 = .ok (.iinc 2 1, 3) := by decide +kernel
theorem dL_text_288 : decode cL_text 288 = .ok (.goto (-90), 3) := by decide +kernel
theorem dL_text_291 : decode cL_text 291 = .ok (.iconst 0, 1) := by decide +kernel
theorem dL_text_292 : decode cL_text 292 = .ok (.istore_n 2, 1) := by decide +kernel
theorem dL_text_293 : decode cL_text 293 = .ok (.iload_n 2, 1) := by decide +kernel
theorem dL_text_294 : decode cL_text 294 = .ok (.aload_n 0, 1) := by decide +kernel
theorem dL_text_295 : decode cL_text 295 = .ok (.invokestatic 116, 3) := by decide +kernel
theorem dL_text_298 : decode cL_text 298 = .ok (.if_icmp .ge 105, 3) := by decide +kernel
theorem dL_text_301 : decode cL_text 301 = .ok (.new 14, 3) := by decide +kernel
theorem dL_text_304 : decode cL_text 304 = .ok (.dup, 1) := by decide +kernel
theorem dL_text_305 : decode cL_text 305 = .ok (.invokespecial 16, 3) := by decide +kernel
theorem dL_text_308 : decode cL_text 308 = .ok (.aload_n 1, 1) := by decide +kernel
theorem dL_text_309 : decode cL_text 309 = .ok (.invokevirtual 17, 3) := by decide +kernel
theorem dL_text_312 : decode cL_text 312 = .ok (.ldc 119, 2) := by decide +kernel
theorem dL_text_314 : decode cL_text 314 = .ok (.invokevirtual 17, 3) := by decide +kernel
theorem dL_text_317 : decode cL_text 317 = .ok (.aload_n 0, 1) := by decide +kernel
theorem dL_text_318 : decode cL_text 318 = .ok (.iload_n 2, 1) := by decide +kernel
theorem dL_text_319 : decode cL_text 319 = .ok (.iconst 0, 1) := by decide +kernel
theorem dL_text_320 : decode cL_text 320 = .ok (.invokestatic 121, 3) := by decide +kernel
theorem dL_text_323 : decode cL_text 323 = .ok (.invokestatic 88, 3) := by decide +kernel
theorem dL_text_326 : decode cL_text 326 = .ok (.invokevirtual 17, 3) := by decide +kernel
theorem dL_text_329 : decode cL_text 329 = .ok (.ldc 21, 2) := by decide +kernel
theorem dL_text_331 : decode cL_text 331 = .ok (.invokevirtual 17, 3) := by decide +kernel
theorem dL_text_334 : decode cL_text 334 = .ok (.aload_n 0, 1) := by decide +kernel
theorem dL_text_335 : decode cL_text 335 = .ok (.iload_n 2, 1) := by decide +kernel
theorem dL_text_336 : decode cL_text 336 = .ok (.iconst 1, 1) := by decide +kernel
theorem dL_text_337 : decode cL_text 337 = .ok (.invokestatic 121, 3) := by decide +kernel
theorem dL_text_340 : decode cL_text 340 = .ok (.invokestatic 88, 3) := by decide +kernel
theorem dL_text_343 : decode cL_text 343 = .ok (.invokevirtual 17, 3) := by decide +kernel
theorem dL_text_346 : decode cL_text 346 = .ok (.ldc 21, 2) := by decide +kernel
theorem dL_text_348 : decode cL_text 348 = .ok (.invokevirtual 17, 3) := by decide +kernel
theorem dL_text_351 : decode cL_text 351 = .ok (.aload_n 0, 1) := by decide +kernel
theorem dL_text_352 : decode cL_text 352 = .ok (.iload_n 2, 1) := by decide +kernel
theorem dL_text_353 : decode cL_text 353 = .ok (.iconst 2, 1) := by decide +kernel
theorem dL_text_354 : decode cL_text 354 = .ok (.invokestatic 121, 3) := by decide +kernel
theorem dL_text_357 : decode cL_text 357 = .ok (.invokevirtual 70, 3) := by decide +kernel
theorem dL_text_360 : decode cL_text 360 = .ok (.ldc 21, 2) := by decide +kernel
theorem dL_text_362 : decode cL_text 362 = .ok (.invokevirtual 17, 3) := by decide +kernel
theorem dL_text_365 : decode cL_text 365 = .ok (.aload_n 0, 1) := by decide +kernel
theorem dL_text_366 : decode cL_text 366 = .ok (.iload_n 2, 1) := by decide +kernel
theorem dL_text_367 : decode cL_text 367 = .ok (.iconst 3, 1) := by decide +kernel
theorem dL_text_368 : decode cL_text 368 = .ok (.invokestatic 121, 3) := by decide +kernel
theorem dL_text_371 : decode cL_text 371 = .ok (.invokevirtual 70, 3) := by decide +kernel
theorem dL_text_374 : decode cL_text 374 = .ok (.ldc 21, 2) := by decide +kernel
theorem dL_text_376 : decode cL_text 376 = .ok (.invokevirtual 17, 3) := by decide +kernel
theorem dL_text_379 : decode cL_text 379 = .ok (.aload_n 0, 1) := by decide +kernel
theorem dL_text_380 : decode cL_text 380 = .ok (.iload_n 2, 1) := by decide +kernel
theorem dL_text_381 : decode cL_text 381 = .ok (.iconst 4, 1) := by decide +kernel
theorem dL_text_382 : decode cL_text 382 = .ok (.invokestatic 121, 3) := by decide +kernel
theorem dL_text_385 : decode cL_text 385 = .ok (.invokevirtual 70, 3) := by decide +kernel
theorem dL_text_388 : decode cL_text 388 = .ok (.ldc 84, 2) := by decide +kernel
theorem dL_text_390 : decode cL_text 390 = .ok (.invokevirtual 17, 3) := by decide +kernel
theorem dL_text_393 : decode cL_text 393 = .ok (.invokevirtual 23, 3) := by decide +kernel
theorem dL_text_396 : decode cL_text 396 = .ok (.astore_n 1, 1) := by decide +kernel
theorem dL_text_397 : decode cL_text 397 = .ok (.iinc 2 1, 3) := by decide +kernel
theorem dL_text_400 : decode cL_text 400 = .ok (.goto (-107), 3) := by decide +kernel
theorem dL_text_403 : decode cL_text 403 = .ok (.aload_n 1, 1) := by decide +kernel
theorem dL_text_404 : decode cL_text 404 = .ok (.areturn, 1) := by decide +kernel
theorem dL_exchange_0 : decode cL_exchange 0 = .ok (.new 32, 3) := by decide +kernel
theorem dL_exchange_3 : decode cL_exchange 3 = .ok (.dup, 1) := by decide +kernel
theorem dL_exchange_4 : decode cL_exchange 4 = .ok (.invokespecial 124, 3) := by decide +kernel
theorem dL_exchange_7 : decode cL_exchange 7 = .ok (.astore_n 1, 1) := by decide +kernel
theorem dL_exchange_8 : decode cL_exchange 8 = .ok (.aload_n 0, 1) := by decide +kernel
theorem dL_exchange_9 : decode cL_exchange 9 = .ok (.invokestatic 125, 3) := by decide +kernel
theorem dL_exchange_12 : decode cL_exchange 12 = .ok (.astore_n 2, 1) := by decide +kernel
theorem dL_exchange_13 : decode cL_exchange 13 = .ok (.aload_n 1, 1) := by decide +kernel
theorem dL_exchange_14 : decode cL_exchange 14 = .ok (.aload_n 2, 1) := by decide +kernel
theorem dL_exchange_15 : decode cL_exchange 15 = .ok (.invokestatic 129, 3) := by decide +kernel
theorem dL_exchange_18 : decode cL_exchange 18 = .ok (.aload_n 1, 1) := by decide +kernel
theorem dL_exchange_19 : decode cL_exchange 19 = .ok (.aload_n 2, 1) := by decide +kernel
theorem dL_exchange_20 : decode cL_exchange 20 = .ok (.invokevirtual 8, 3) := by decide +kernel
theorem dL_exchange_23 : decode cL_exchange 23 = .ok (.invokevirtual 133, 3) := by decide +kernel
theorem dL_exchange_26 : decode cL_exchange 26 = .ok (.aload_n 2, 1) := by decide +kernel
theorem dL_exchange_27 : decode cL_exchange 27 = .ok (.invokestatic 136, 3) := by decide +kernel
theorem dL_exchange_30 : decode cL_exchange 30 = .ok (.if_icmp .ne 7, 3) := by decide +kernel
theorem dL_exchange_33 : decode cL_exchange 33 = .ok (.aload_n 1, 1) := by decide +kernel
theorem dL_exchange_34 : decode cL_exchange 34 = .ok (.goto 4, 3) := by decide +kernel
theorem dL_exchange_37 : decode cL_exchange 37 = .ok (.aconst_null, 1) := by decide +kernel
theorem dL_exchange_38 : decode cL_exchange 38 = .ok (.areturn, 1) := by decide +kernel
theorem dL_fade_0 : decode cL_fade 0 = .ok (.iconst 0, 1) := by decide +kernel
theorem dL_fade_1 : decode cL_fade 1 = .ok (.istore_n 3, 1) := by decide +kernel
theorem dL_fade_2 : decode cL_fade 2 = .ok (.iconst 0, 1) := by decide +kernel
theorem dL_fade_3 : decode cL_fade 3 = .ok (.istore 4, 2) := by decide +kernel
theorem dL_fade_5 : decode cL_fade 5 = .ok (.iload 4, 2) := by decide +kernel
theorem dL_fade_7 : decode cL_fade 7 = .ok (.aload_n 0, 1) := by decide +kernel
theorem dL_fade_8 : decode cL_fade 8 = .ok (.invokestatic 111, 3) := by decide +kernel
theorem dL_fade_11 : decode cL_fade 11 = .ok (.if_icmp .ge 56, 3) := by decide +kernel
theorem dL_fade_14 : decode cL_fade 14 = .ok (.iload_n 3, 1) := by decide +kernel
theorem dL_fade_15 : decode cL_fade 15 = .ok (.aload_n 0, 1) := by decide +kernel
theorem dL_fade_16 : decode cL_fade 16 = .ok (.iload 4, 2) := by decide +kernel
theorem dL_fade_18 : decode cL_fade 18 = .ok (.iconst 0, 1) := by decide +kernel
theorem dL_fade_19 : decode cL_fade 19 = .ok (.invokestatic 56, 3) := by decide +kernel
theorem dL_fade_22 : decode cL_fade 22 = .ok (.iload_n 1, 1) := by decide +kernel
theorem dL_fade_23 : decode cL_fade 23 = .ok (.if_icmp .ne 35, 3) := by decide +kernel
theorem dL_fade_26 : decode cL_fade 26 = .ok (.iload_n 2, 1) := by decide +kernel
theorem dL_fade_27 : decode cL_fade 27 = .ok (.aload_n 0, 1) := by decide +kernel
theorem dL_fade_28 : decode cL_fade 28 = .ok (.iload 4, 2) := by decide +kernel
theorem dL_fade_30 : decode cL_fade 30 = .ok (.iconst 1, 1) := by decide +kernel
theorem dL_fade_31 : decode cL_fade 31 = .ok (.invokestatic 56, 3) := by decide +kernel
theorem dL_fade_34 : decode cL_fade 34 = .ok (.if_icmp .lt 24, 3) := by decide +kernel
theorem dL_fade_37 : decode cL_fade 37 = .ok (.iload_n 2, 1) := by decide +kernel
theorem dL_fade_38 : decode cL_fade 38 = .ok (.aload_n 0, 1) := by decide +kernel
theorem dL_fade_39 : decode cL_fade 39 = .ok (.iload 4, 2) := by decide +kernel
theorem dL_fade_41 : decode cL_fade 41 = .ok (.iconst 2, 1) := by decide +kernel
theorem dL_fade_42 : decode cL_fade 42 = .ok (.invokestatic 56, 3) := by decide +kernel
theorem dL_fade_45 : decode cL_fade 45 = .ok (.if_icmp .gt 13, 3) := by decide +kernel
theorem dL_fade_48 : decode cL_fade 48 = .ok (.aload_n 0, 1) := by decide +kernel
theorem dL_fade_49 : decode cL_fade 49 = .ok (.iload 4, 2) := by decide +kernel
theorem dL_fade_51 : decode cL_fade 51 = .ok (.iconst 3, 1) := by decide +kernel
theorem dL_fade_52 : decode cL_fade 52 = .ok (.invokestatic 56, 3) := by decide +kernel
theorem dL_fade_55 : decode cL_fade 55 = .ok (.goto 4, 3) := by decide +kernel
theorem dL_fade_58 : decode cL_fade 58 = .ok (.iconst 0, 1) := by decide +kernel
theorem dL_fade_59 : decode cL_fade 59 = .ok (.iadd, 1) := by decide +kernel
theorem dL_fade_60 : decode cL_fade 60 = .ok (.istore_n 3, 1) := by decide +kernel
theorem dL_fade_61 : decode cL_fade 61 = .ok (.iinc 4 1, 3) := by decide +kernel
theorem dL_fade_64 : decode cL_fade 64 = .ok (.goto (-59), 3) := by decide +kernel
theorem dL_fade_67 : decode cL_fade 67 = .ok (.iload_n 3, 1) := by decide +kernel
theorem dL_fade_68 : decode cL_fade 68 = .ok (.ireturn, 1) := by decide +kernel
theorem dL_changes_0 : decode cL_changes 0 = .ok (.iload_n 2, 1) := by decide +kernel
theorem dL_changes_1 : decode cL_changes 1 = .ok (.bipush 8, 2) := by decide +kernel
theorem dL_changes_3 : decode cL_changes 3 = .ok (.idiv, 1) := by decide +kernel
theorem dL_changes_4 : decode cL_changes 4 = .ok (.aload_n 1, 1) := by decide +kernel
theorem dL_changes_5 : decode cL_changes 5 = .ok (.invokestatic 52, 3) := by decide +kernel
theorem dL_changes_8 : decode cL_changes 8 = .ok (.invokestatic 43, 3) := by decide +kernel
theorem dL_changes_11 : decode cL_changes 11 = .ok (.istore_n 3, 1) := by decide +kernel
theorem dL_changes_12 : decode cL_changes 12 = .ok (.iload_n 2, 1) := by decide +kernel
theorem dL_changes_13 : decode cL_changes 13 = .ok (.bipush 8, 2) := by decide +kernel
theorem dL_changes_15 : decode cL_changes 15 = .ok (.invokestatic 43, 3) := by decide +kernel
theorem dL_changes_18 : decode cL_changes 18 = .ok (.tableswitch 187 0 6 #[42, 42, 42, 106, 129, 148, 178], 42) := by decide +kernel
theorem dL_changes_60 : decode cL_changes 60 = .ok (.aload_n 0, 1) := by decide +kernel
theorem dL_changes_61 : decode cL_changes 61 = .ok (.iload_n 3, 1) := by decide +kernel
theorem dL_changes_62 : decode cL_changes 62 = .ok (.iload_n 3, 1) := by decide +kernel
theorem dL_changes_63 : decode cL_changes 63 = .ok (.iconst 1, 1) := by decide +kernel
theorem dL_changes_64 : decode cL_changes 64 = .ok (.iadd, 1) := by decide +kernel
theorem dL_changes_65 : decode cL_changes 65 = .ok (.iload_n 2, 1) := by decide +kernel
theorem dL_changes_66 : decode cL_changes 66 = .ok (.bipush 64, 2) := by decide +kernel
theorem dL_changes_68 : decode cL_changes 68 = .ok (.idiv, 1) := by decide +kernel
theorem dL_changes_69 : decode cL_changes 69 = .ok (.aload_n 1, 1) := by decide +kernel
theorem dL_changes_70 : decode cL_changes 70 = .ok (.invokestatic 52, 3) := by decide +kernel
theorem dL_changes_73 : decode cL_changes 73 = .ok (.iconst 1, 1) := by decide +kernel
theorem dL_changes_74 : decode cL_changes 74 = .ok (.isub, 1) := by decide +kernel
theorem dL_changes_75 : decode cL_changes 75 = .ok (.invokestatic 43, 3) := by decide +kernel
theorem dL_changes_78 : decode cL_changes 78 = .ok (.iadd, 1) := by decide +kernel
theorem dL_changes_79 : decode cL_changes 79 = .ok (.aload_n 1, 1) := by decide +kernel
theorem dL_changes_80 : decode cL_changes 80 = .ok (.invokestatic 52, 3) := by decide +kernel
theorem dL_changes_83 : decode cL_changes 83 = .ok (.irem, 1) := by decide +kernel
theorem dL_changes_84 : decode cL_changes 84 = .ok (.iload_n 2, 1) := by decide +kernel
theorem dL_changes_85 : decode cL_changes 85 = .ok (.sipush 512, 3) := by decide +kernel
theorem dL_changes_88 : decode cL_changes 88 = .ok (.idiv, 1) := by decide +kernel
theorem dL_changes_89 : decode cL_changes 89 = .ok (.iconst 4, 1) := by decide +kernel
theorem dL_changes_90 : decode cL_changes 90 = .ok (.invokestatic 43, 3) := by decide +kernel
theorem dL_changes_93 : decode cL_changes 93 = .ok (.iconst 1, 1) := by decide +kernel
theorem dL_changes_94 : decode cL_changes 94 = .ok (.iload_n 2, 1) := by decide +kernel
theorem dL_changes_95 : decode cL_changes 95 = .ok (.sipush 2048, 3) := by decide +kernel
theorem dL_changes_98 : decode cL_changes 98 = .ok (.idiv, 1) := by decide +kernel
theorem dL_changes_99 : decode cL_changes 99 = .ok (.sipush 250, 3) := by decide +kernel
theorem dL_changes_102 : decode cL_changes 102 = .ok (.invokestatic 43, 3) := by decide +kernel
theorem dL_changes_105 : decode cL_changes 105 = .ok (.iadd, 1) := by decide +kernel
theorem dL_changes_106 : decode cL_changes 106 = .ok (.iconst 1, 1) := by decide +kernel
theorem dL_changes_107 : decode cL_changes 107 = .ok (.iload_n 2, 1) := by decide +kernel
theorem dL_changes_108 : decode cL_changes 108 = .ok (.ldc 140, 2) := by decide +kernel
theorem dL_changes_110 : decode cL_changes 110 = .ok (.idiv, 1) := by decide +kernel
theorem dL_changes_111 : decode cL_changes 111 = .ok (.bipush 20, 2) := by decide +kernel
theorem dL_changes_113 : decode cL_changes 113 = .ok (.invokestatic 43, 3) := by decide +kernel
theorem dL_changes_116 : decode cL_changes 116 = .ok (.iadd, 1) := by decide +kernel
theorem dL_changes_117 : decode cL_changes 117 = .ok (.invokevirtual 141, 3) := by decide +kernel
theorem dL_changes_120 : decode cL_changes 120 = .ok (.pop, 1) := by decide +kernel
theorem dL_changes_121 : decode cL_changes 121 = .ok (.goto 89, 3) := by decide +kernel
theorem dL_changes_124 : decode cL_changes 124 = .ok (.aload_n 0, 1) := by decide +kernel
theorem dL_changes_125 : decode cL_changes 125 = .ok (.iload_n 2, 1) := by decide +kernel
theorem dL_changes_126 : decode cL_changes 126 = .ok (.bipush 64, 2) := by decide +kernel
theorem dL_changes_128 : decode cL_changes 128 = .ok (.idiv, 1) := by decide +kernel
theorem dL_changes_129 : decode cL_changes 129 = .ok (.iconst 1, 1) := by decide +kernel
theorem dL_changes_130 : decode cL_changes 130 = .ok (.aload_n 0, 1) := by decide +kernel
theorem dL_changes_131 : decode cL_changes 131 = .ok (.invokevirtual 144, 3) := by decide +kernel
theorem dL_changes_134 : decode cL_changes 134 = .ok (.invokestatic 147, 3) := by decide +kernel
theorem dL_changes_137 : decode cL_changes 137 = .ok (.invokestatic 43, 3) := by decide +kernel
theorem dL_changes_140 : decode cL_changes 140 = .ok (.invokevirtual 150, 3) := by decide +kernel
theorem dL_changes_143 : decode cL_changes 143 = .ok (.pop, 1) := by decide +kernel
theorem dL_changes_144 : decode cL_changes 144 = .ok (.goto 66, 3) := by decide +kernel
theorem dL_changes_147 : decode cL_changes 147 = .ok (.aload_n 0, 1) := by decide +kernel
theorem dL_changes_148 : decode cL_changes 148 = .ok (.iconst 1, 1) := by decide +kernel
theorem dL_changes_149 : decode cL_changes 149 = .ok (.iload_n 2, 1) := by decide +kernel
theorem dL_changes_150 : decode cL_changes 150 = .ok (.bipush 64, 2) := by decide +kernel
theorem dL_changes_152 : decode cL_changes 152 = .ok (.idiv, 1) := by decide +kernel
theorem dL_changes_153 : decode cL_changes 153 = .ok (.bipush 6, 2) := by decide +kernel
theorem dL_changes_155 : decode cL_changes 155 = .ok (.invokestatic 43, 3) := by decide +kernel
theorem dL_changes_158 : decode cL_changes 158 = .ok (.iadd, 1) := by decide +kernel
theorem dL_changes_159 : decode cL_changes 159 = .ok (.invokevirtual 153, 3) := by decide +kernel
theorem dL_changes_162 : decode cL_changes 162 = .ok (.pop, 1) := by decide +kernel
theorem dL_changes_163 : decode cL_changes 163 = .ok (.goto 47, 3) := by decide +kernel
theorem dL_changes_166 : decode cL_changes 166 = .ok (.aload_n 0, 1) := by decide +kernel
theorem dL_changes_167 : decode cL_changes 167 = .ok (.iconst 4, 1) := by decide +kernel
theorem dL_changes_168 : decode cL_changes 168 = .ok (.iload_n 2, 1) := by decide +kernel
theorem dL_changes_169 : decode cL_changes 169 = .ok (.bipush 64, 2) := by decide +kernel
theorem dL_changes_171 : decode cL_changes 171 = .ok (.idiv, 1) := by decide +kernel
theorem dL_changes_172 : decode cL_changes 172 = .ok (.iconst 3, 1) := by decide +kernel
theorem dL_changes_173 : decode cL_changes 173 = .ok (.invokestatic 43, 3) := by decide +kernel
theorem dL_changes_176 : decode cL_changes 176 = .ok (.iadd, 1) := by decide +kernel
theorem dL_changes_177 : decode cL_changes 177 = .ok (.iconst 1, 1) := by decide +kernel
theorem dL_changes_178 : decode cL_changes 178 = .ok (.iload_n 2, 1) := by decide +kernel
theorem dL_changes_179 : decode cL_changes 179 = .ok (.sipush 256, 3) := by decide +kernel
theorem dL_changes_182 : decode cL_changes 182 = .ok (.idiv, 1) := by decide +kernel
theorem dL_changes_183 : decode cL_changes 183 = .ok (.bipush 90, 2) := by decide +kernel
theorem dL_changes_185 : decode cL_changes 185 = .ok (.invokestatic 43, 3) := by decide +kernel
theorem dL_changes_188 : decode cL_changes 188 = .ok (.iadd, 1) := by decide +kernel
theorem dL_changes_189 : decode cL_changes 189 = .ok (.invokevirtual 156, 3) := by decide +kernel
theorem dL_changes_192 : decode cL_changes 192 = .ok (.pop, 1) := by decide +kernel
theorem dL_changes_193 : decode cL_changes 193 = .ok (.goto 17, 3) := by decide +kernel
theorem dL_changes_196 : decode cL_changes 196 = .ok (.aload_n 0, 1) := by decide +kernel
theorem dL_changes_197 : decode cL_changes 197 = .ok (.iload_n 3, 1) := by decide +kernel
theorem dL_changes_198 : decode cL_changes 198 = .ok (.invokevirtual 159, 3) := by decide +kernel
theorem dL_changes_201 : decode cL_changes 201 = .ok (.pop, 1) := by decide +kernel
theorem dL_changes_202 : decode cL_changes 202 = .ok (.goto 8, 3) := by decide +kernel
theorem dL_changes_205 : decode cL_changes 205 = .ok (.aload_n 0, 1) := by decide +kernel
theorem dL_changes_206 : decode cL_changes 206 = .ok (.invokevirtual 163, 3) := by decide +kernel
theorem dL_changes_209 : decode cL_changes 209 = .ok (.pop, 1) := by decide +kernel
theorem dL_changes_210 : decode cL_changes 210 = .ok (.return_, 1) := by decide +kernel
theorem dL_areBursts_0 : decode cL_areBursts 0 = .ok (.aload_n 0, 1) := by decide +kernel
theorem dL_areBursts_1 : decode cL_areBursts 1 = .ok (.iconst 1, 1) := by decide +kernel
theorem dL_areBursts_2 : decode cL_areBursts 2 = .ok (.invokevirtual 166, 3) := by decide +kernel
theorem dL_areBursts_5 : decode cL_areBursts 5 = .ok (.istore_n 1, 1) := by decide +kernel
theorem dL_areBursts_6 : decode cL_areBursts 6 = .ok (.iconst 0, 1) := by decide +kernel
theorem dL_areBursts_7 : decode cL_areBursts 7 = .ok (.istore_n 2, 1) := by decide +kernel
theorem dL_areBursts_8 : decode cL_areBursts 8 = .ok (.iconst 0, 1) := by decide +kernel
theorem dL_areBursts_9 : decode cL_areBursts 9 = .ok (.istore_n 3, 1) := by decide +kernel
theorem dL_areBursts_10 : decode cL_areBursts 10 = .ok (.iload_n 3, 1) := by decide +kernel
theorem dL_areBursts_11 : decode cL_areBursts 11 = .ok (.aload_n 0, 1) := by decide +kernel
theorem dL_areBursts_12 : decode cL_areBursts 12 = .ok (.invokevirtual 144, 3) := by decide +kernel
theorem dL_areBursts_15 : decode cL_areBursts 15 = .ok (.if_icmp .ge 387, 3) := by decide +kernel
theorem dL_areBursts_18 : decode cL_areBursts 18 = .ok (.aload_n 0, 1) := by decide +kernel
theorem dL_areBursts_19 : decode cL_areBursts 19 = .ok (.iload_n 3, 1) := by decide +kernel
theorem dL_areBursts_20 : decode cL_areBursts 20 = .ok (.invokevirtual 169, 3) := by decide +kernel
theorem dL_areBursts_23 : decode cL_areBursts 23 = .ok (.aload_n 0, 1) := by decide +kernel
theorem dL_areBursts_24 : decode cL_areBursts 24 = .ok (.iconst 3, 1) := by decide +kernel
theorem dL_areBursts_25 : decode cL_areBursts 25 = .ok (.invokevirtual 166, 3) := by decide +kernel
theorem dL_areBursts_28 : decode cL_areBursts 28 = .ok (.if_icmp .le 16, 3) := by decide +kernel
theorem dL_areBursts_31 : decode cL_areBursts 31 = .ok (.aload_n 0, 1) := by decide +kernel
theorem dL_areBursts_32 : decode cL_areBursts 32 = .ok (.iload_n 3, 1) := by decide +kernel
theorem dL_areBursts_33 : decode cL_areBursts 33 = .ok (.invokevirtual 172, 3) := by decide +kernel
theorem dL_areBursts_36 : decode cL_areBursts 36 = .ok (.aload_n 0, 1) := by decide +kernel
theorem dL_areBursts_37 : decode cL_areBursts 37 = .ok (.iload_n 3, 1) := by decide +kernel
theorem dL_areBursts_38 : decode cL_areBursts 38 = .ok (.invokevirtual 175, 3) := by decide +kernel
theorem dL_areBursts_41 : decode cL_areBursts 41 = .ok (.if_icmp .ne 5, 3) := by decide +kernel
theorem dL_areBursts_44 : decode cL_areBursts 44 = .ok (.iconst 0, 1) := by decide +kernel
theorem dL_areBursts_45 : decode cL_areBursts 45 = .ok (.ireturn, 1) := by decide +kernel
theorem dL_areBursts_46 : decode cL_areBursts 46 = .ok (.aload_n 0, 1) := by decide +kernel
theorem dL_areBursts_47 : decode cL_areBursts 47 = .ok (.iload_n 3, 1) := by decide +kernel
theorem dL_areBursts_48 : decode cL_areBursts 48 = .ok (.invokevirtual 178, 3) := by decide +kernel
theorem dL_areBursts_51 : decode cL_areBursts 51 = .ok (.iconst 1, 1) := by decide +kernel
theorem dL_areBursts_52 : decode cL_areBursts 52 = .ok (.if_icmp .eq 68, 3) := by decide +kernel
theorem dL_areBursts_55 : decode cL_areBursts 55 = .ok (.aload_n 0, 1) := by decide +kernel
theorem dL_areBursts_56 : decode cL_areBursts 56 = .ok (.iload_n 3, 1) := by decide +kernel
theorem dL_areBursts_57 : decode cL_areBursts 57 = .ok (.invokevirtual 181, 3) := by decide +kernel
theorem dL_areBursts_60 : decode cL_areBursts 60 = .ok (.iconst (-1), 1) := by decide +kernel
theorem dL_areBursts_61 : decode cL_areBursts 61 = .ok (.if_icmp .ne 38, 3) := by decide +kernel
theorem dL_areBursts_64 : decode cL_areBursts 64 = .ok (.aload_n 0, 1) := by decide +kernel
theorem dL_areBursts_65 : decode cL_areBursts 65 = .ok (.iload_n 3, 1) := by decide +kernel
theorem dL_areBursts_66 : decode cL_areBursts 66 = .ok (.invokevirtual 184, 3) := by decide +kernel
theorem dL_areBursts_69 : decode cL_areBursts 69 = .ok (.iconst (-1), 1) := by decide +kernel
theorem dL_areBursts_70 : decode cL_areBursts 70 = .ok (.if_icmp .ne 29, 3) := by decide +kernel
theorem dL_areBursts_73 : decode cL_areBursts 73 = .ok (.aload_n 0, 1) := by decide +kernel
theorem dL_areBursts_74 : decode cL_areBursts 74 = .ok (.iload_n 3, 1) := by decide +kernel
theorem dL_areBursts_75 : decode cL_areBursts 75 = .ok (.invokevirtual 187, 3) := by decide +kernel
theorem dL_areBursts_78 : decode cL_areBursts 78 = .ok (.iconst (-1), 1) := by decide +kernel
theorem dL_areBursts_79 : decode cL_areBursts 79 = .ok (.if_icmp .ne 20, 3) := by decide +kernel
theorem dL_areBursts_82 : decode cL_areBursts 82 = .ok (.aload_n 0, 1) := by decide +kernel
theorem dL_areBursts_83 : decode cL_areBursts 83 = .ok (.iload_n 3, 1) := by decide +kernel
theorem dL_areBursts_84 : decode cL_areBursts 84 = .ok (.invokevirtual 190, 3) := by decide +kernel
theorem dL_areBursts_87 : decode cL_areBursts 87 = .ok (.iconst (-1), 1) := by decide +kernel
theorem dL_areBursts_88 : decode cL_areBursts 88 = .ok (.if_icmp .ne 11, 3) := by decide +kernel
theorem dL_areBursts_91 : decode cL_areBursts 91 = .ok (.aload_n 0, 1) := by decide +kernel
theorem dL_areBursts_92 : decode cL_areBursts 92 = .ok (.iload_n 3, 1) := by decide +kernel
theorem dL_areBursts_93 : decode cL_areBursts 93 = .ok (.invokevirtual 193, 3) := by decide +kernel
theorem dL_areBursts_96 : decode cL_areBursts 96 = .ok (.ifCond .eq 5, 3) := by decide +kernel
theorem dL_areBursts_99 : decode cL_areBursts 99 = .ok (.iconst 0, 1) := by decide +kernel
theorem dL_areBursts_100 : decode cL_areBursts 100 = .ok (.ireturn, 1) := by decide +kernel
theorem dL_areBursts_101 : decode cL_areBursts 101 = .ok (.aload_n 0, 1) := by decide +kernel
theorem dL_areBursts_102 : decode cL_areBursts 102 = .ok (.iload_n 3, 1) := by decide +kernel
theorem dL_areBursts_103 : decode cL_areBursts 103 = .ok (.invokevirtual 178, 3) := by decide +kernel
theorem dL_areBursts_106 : decode cL_areBursts 106 = .ok (.ifCond .ne 290, 3) := by decide +kernel
theorem dL_areBursts_109 : decode cL_areBursts 109 = .ok (.aload_n 0, 1) := by decide +kernel
theorem dL_areBursts_110 : decode cL_areBursts 110 = .ok (.iload_n 3, 1) := by decide +kernel
theorem dL_areBursts_111 : decode cL_areBursts 111 = .ok (.iconst 0, 1) := by decide +kernel
theorem dL_areBursts_112 : decode cL_areBursts 112 = .ok (.invokevirtual 196, 3) := by decide +kernel
theorem dL_areBursts_115 : decode cL_areBursts 115 = .ok (.ifCond .eq 281, 3) := by decide +kernel
theorem dL_areBursts_118 : decode cL_areBursts 118 = .ok (.iconst 0, 1) := by decide +kernel
theorem dL_areBursts_119 : decode cL_areBursts 119 = .ok (.ireturn, 1) := by decide +kernel
theorem dL_areBursts_120 : decode cL_areBursts 120 = .ok (.iload_n 2, 1) := by decide +kernel
theorem dL_areBursts_121 : decode cL_areBursts 121 = .ok (.aload_n 0, 1) := by decide +kernel
theorem dL_areBursts_122 : decode cL_areBursts 122 = .ok (.iload_n 3, 1) := by decide +kernel
theorem dL_areBursts_123 : decode cL_areBursts 123 = .ok (.invokevirtual 169, 3) := by decide +kernel
theorem dL_areBursts_126 : decode cL_areBursts 126 = .ok (.iadd, 1) := by decide +kernel
theorem dL_areBursts_127 : decode cL_areBursts 127 = .ok (.istore_n 2, 1) := by decide +kernel
theorem dL_areBursts_128 : decode cL_areBursts 128 = .ok (.aload_n 0, 1) := by decide +kernel
theorem dL_areBursts_129 : decode cL_areBursts 129 = .ok (.iload_n 3, 1) := by decide +kernel
theorem dL_areBursts_130 : decode cL_areBursts 130 = .ok (.invokevirtual 184, 3) := by decide +kernel
theorem dL_areBursts_133 : decode cL_areBursts 133 = .ok (.istore 4, 2) := by decide +kernel
theorem dL_areBursts_135 : decode cL_areBursts 135 = .ok (.iload 4, 2) := by decide +kernel
theorem dL_areBursts_137 : decode cL_areBursts 137 = .ok (.aload_n 0, 1) := by decide +kernel
theorem dL_areBursts_138 : decode cL_areBursts 138 = .ok (.iconst 2, 1) := by decide +kernel
theorem dL_areBursts_139 : decode cL_areBursts 139 = .ok (.invokevirtual 166, 3) := by decide +kernel
theorem dL_areBursts_142 : decode cL_areBursts 142 = .ok (.iload_n 1, 1) := by decide +kernel
theorem dL_areBursts_143 : decode cL_areBursts 143 = .ok (.iadd, 1) := by decide +kernel
theorem dL_areBursts_144 : decode cL_areBursts 144 = .ok (.if_icmp .lt 33, 3) := by decide +kernel
theorem dL_areBursts_147 : decode cL_areBursts 147 = .ok (.iload 4, 2) := by decide +kernel
theorem dL_areBursts_149 : decode cL_areBursts 149 = .ok (.aload_n 0, 1) := by decide +kernel
theorem dL_areBursts_150 : decode cL_areBursts 150 = .ok (.iload_n 3, 1) := by decide +kernel
theorem dL_areBursts_151 : decode cL_areBursts 151 = .ok (.invokevirtual 169, 3) := by decide +kernel
theorem dL_areBursts_154 : decode cL_areBursts 154 = .ok (.iadd, 1) := by decide +kernel
theorem dL_areBursts_155 : decode cL_areBursts 155 = .ok (.iload_n 1, 1) := by decide +kernel
theorem dL_areBursts_156 : decode cL_areBursts 156 = .ok (.iadd, 1) := by decide +kernel
theorem dL_areBursts_157 : decode cL_areBursts 157 = .ok (.aload_n 0, 1) := by decide +kernel
theorem dL_areBursts_158 : decode cL_areBursts 158 = .ok (.iconst 0, 1) := by decide +kernel
theorem dL_areBursts_159 : decode cL_areBursts 159 = .ok (.invokevirtual 166, 3) := by decide +kernel
theorem dL_areBursts_162 : decode cL_areBursts 162 = .ok (.if_icmp .gt 15, 3) := by decide +kernel
theorem dL_areBursts_165 : decode cL_areBursts 165 = .ok (.aload_n 0, 1) := by decide +kernel
theorem dL_areBursts_166 : decode cL_areBursts 166 = .ok (.iload_n 3, 1) := by decide +kernel
theorem dL_areBursts_167 : decode cL_areBursts 167 = .ok (.invokevirtual 187, 3) := by decide +kernel
theorem dL_areBursts_170 : decode cL_areBursts 170 = .ok (.aload_n 0, 1) := by decide +kernel
theorem dL_areBursts_171 : decode cL_areBursts 171 = .ok (.invokevirtual 200, 3) := by decide +kernel
theorem dL_areBursts_174 : decode cL_areBursts 174 = .ok (.if_icmp .gt 5, 3) := by decide +kernel
theorem dL_areBursts_177 : decode cL_areBursts 177 = .ok (.iconst 0, 1) := by decide +kernel
theorem dL_areBursts_178 : decode cL_areBursts 178 = .ok (.ireturn, 1) := by decide +kernel
theorem dL_areBursts_179 : decode cL_areBursts 179 = .ok (.iconst 0, 1) := by decide +kernel
theorem dL_areBursts_180 : decode cL_areBursts 180 = .ok (.istore 5, 2) := by decide +kernel
theorem dL_areBursts_182 : decode cL_areBursts 182 = .ok (.iconst 0, 1) := by decide +kernel
theorem dL_areBursts_183 : decode cL_areBursts 183 = .ok (.istore 6, 2) := by decide +kernel
theorem dL_areBursts_185 : decode cL_areBursts 185 = .ok (.iload 6, 2) := by decide +kernel
theorem dL_areBursts_187 : decode cL_areBursts 187 = .ok (.aload_n 0, 1) := by decide +kernel
theorem dL_areBursts_188 : decode cL_areBursts 188 = .ok (.invokevirtual 144, 3) := by decide +kernel
theorem dL_areBursts_191 : decode cL_areBursts 191 = .ok (.if_icmp .ge 153, 3) := by decide +kernel
theorem dL_areBursts_194 : decode cL_areBursts 194 = .ok (.iload 6, 2) := by decide +kernel
theorem dL_areBursts_196 : decode cL_areBursts 196 = .ok (.iload_n 3, 1) := by decide +kernel
theorem dL_areBursts_197 : decode cL_areBursts 197 = .ok (.if_icmp .eq 141, 3) := by decide +kernel
theorem dL_areBursts_200 : decode cL_areBursts 200 = .ok (.aload_n 0, 1) := by decide +kernel
theorem dL_areBursts_201 : decode cL_areBursts 201 = .ok (.iload 6, 2) := by decide +kernel
theorem dL_areBursts_203 : decode cL_areBursts 203 = .ok (.invokevirtual 178, 3) := by decide +kernel
theorem dL_areBursts_206 : decode cL_areBursts 206 = .ok (.iconst 1, 1) := by decide +kernel
theorem dL_areBursts_207 : decode cL_areBursts 207 = .ok (.if_icmp .eq 6, 3) := by decide +kernel
theorem dL_areBursts_210 : decode cL_areBursts 210 = .ok (.goto 128, 3) := by decide +kernel
theorem dL_areBursts_213 : decode cL_areBursts 213 = .ok (.aload_n 0, 1) := by decide +kernel
theorem dL_areBursts_214 : decode cL_areBursts 214 = .ok (.iload 6, 2) := by decide +kernel
theorem dL_areBursts_216 : decode cL_areBursts 216 = .ok (.invokevirtual 181, 3) := by decide +kernel
theorem dL_areBursts_219 : decode cL_areBursts 219 = .ok (.aload_n 0, 1) := by decide +kernel
theorem dL_areBursts_220 : decode cL_areBursts 220 = .ok (.iload_n 3, 1) := by decide +kernel
theorem dL_areBursts_221 : decode cL_areBursts 221 = .ok (.invokevirtual 181, 3) := by decide +kernel
theorem dL_areBursts_224 : decode cL_areBursts 224 = .ok (.if_icmp .eq 31, 3) := by decide +kernel
theorem dL_areBursts_227 : decode cL_areBursts 227 = .ok (.aload_n 0, 1) := by decide +kernel
theorem dL_areBursts_228 : decode cL_areBursts 228 = .ok (.iload 6, 2) := by decide +kernel
theorem dL_areBursts_230 : decode cL_areBursts 230 = .ok (.invokevirtual 172, 3) := by decide +kernel
theorem dL_areBursts_233 : decode cL_areBursts 233 = .ok (.aload_n 0, 1) := by decide +kernel
theorem dL_areBursts_234 : decode cL_areBursts 234 = .ok (.iload_n 3, 1) := by decide +kernel
theorem dL_areBursts_235 : decode cL_areBursts 235 = .ok (.invokevirtual 172, 3) := by decide +kernel
theorem dL_areBursts_238 : decode cL_areBursts 238 = .ok (.if_icmp .eq 17, 3) := by decide +kernel
theorem dL_areBursts_241 : decode cL_areBursts 241 = .ok (.aload_n 0, 1) := by decide +kernel
theorem dL_areBursts_242 : decode cL_areBursts 242 = .ok (.iload 6, 2) := by decide +kernel
theorem dL_areBursts_244 : decode cL_areBursts 244 = .ok (.invokevirtual 175, 3) := by decide +kernel
theorem dL_areBursts_247 : decode cL_areBursts 247 = .ok (.aload_n 0, 1) := by decide +kernel
theorem dL_areBursts_248 : decode cL_areBursts 248 = .ok (.iload_n 3, 1) := by decide +kernel
theorem dL_areBursts_249 : decode cL_areBursts 249 = .ok (.invokevirtual 175, 3) := by decide +kernel
theorem dL_areBursts_252 : decode cL_areBursts 252 = .ok (.if_icmp .ne 7, 3) := by decide +kernel
theorem dL_areBursts_255 : decode cL_areBursts 255 = .ok (.iconst 1, 1) := by decide +kernel
theorem dL_areBursts_256 : decode cL_areBursts 256 = .ok (.goto 4, 3) := by decide +kernel
theorem dL_areBursts_259 : decode cL_areBursts 259 = .ok (.iconst 0, 1) := by decide +kernel
theorem dL_areBursts_260 : decode cL_areBursts 260 = .ok (.istore 7, 2) := by decide +kernel
theorem dL_areBursts_262 : decode cL_areBursts 262 = .ok (.iload 5, 2) := by decide +kernel
theorem dL_areBursts_264 : decode cL_areBursts 264 = .ok (.iload 7, 2) := by decide +kernel
theorem dL_areBursts_266 : decode cL_areBursts 266 = .ok (.ifCond .eq 10, 3) := by decide +kernel
theorem dL_areBursts_269 : decode cL_areBursts 269 = .ok (.iconst 1, 1) := by decide +kernel
theorem dL_areBursts_270 : decode cL_areBursts 270 = .ok (.iload 6, 2) := by decide +kernel
theorem dL_areBursts_272 : decode cL_areBursts 272 = .ok (.ishl, 1) := by decide +kernel
theorem dL_areBursts_273 : decode cL_areBursts 273 = .ok (.goto 4, 3) := by decide +kernel
theorem dL_areBursts_276 : decode cL_areBursts 276 = .ok (.iconst 0, 1) := by decide +kernel
theorem dL_areBursts_277 : decode cL_areBursts 277 = .ok (.ior, 1) := by decide +kernel
theorem dL_areBursts_278 : decode cL_areBursts 278 = .ok (.istore 5, 2) := by decide +kernel
theorem dL_areBursts_280 : decode cL_areBursts 280 = .ok (.aload_n 0, 1) := by decide +kernel
theorem dL_areBursts_281 : decode cL_areBursts 281 = .ok (.iload 6, 2) := by decide +kernel
theorem dL_areBursts_283 : decode cL_areBursts 283 = .ok (.invokevirtual 184, 3) := by decide +kernel
theorem dL_areBursts_286 : decode cL_areBursts 286 = .ok (.iload 4, 2) := by decide +kernel
theorem dL_areBursts_288 : decode cL_areBursts 288 = .ok (.aload_n 0, 1) := by decide +kernel
theorem dL_areBursts_289 : decode cL_areBursts 289 = .ok (.iload_n 3, 1) := by decide +kernel
theorem dL_areBursts_290 : decode cL_areBursts 290 = .ok (.invokevirtual 169, 3) := by decide +kernel
theorem dL_areBursts_293 : decode cL_areBursts 293 = .ok (.iadd, 1) := by decide +kernel
theorem dL_areBursts_294 : decode cL_areBursts 294 = .ok (.iload_n 1, 1) := by decide +kernel
theorem dL_areBursts_295 : decode cL_areBursts 295 = .ok (.iadd, 1) := by decide +kernel
theorem dL_areBursts_296 : decode cL_areBursts 296 = .ok (.if_icmp .ge 23, 3) := by decide +kernel
theorem dL_areBursts_299 : decode cL_areBursts 299 = .ok (.iload 4, 2) := by decide +kernel
theorem dL_areBursts_301 : decode cL_areBursts 301 = .ok (.aload_n 0, 1) := by decide +kernel
theorem dL_areBursts_302 : decode cL_areBursts 302 = .ok (.iload 6, 2) := by decide +kernel
theorem dL_areBursts_304 : decode cL_areBursts 304 = .ok (.invokevirtual 184, 3) := by decide +kernel
theorem dL_areBursts_307 : decode cL_areBursts 307 = .ok (.aload_n 0, 1) := by decide +kernel
theorem dL_areBursts_308 : decode cL_areBursts 308 = .ok (.iload 6, 2) := by decide +kernel
theorem dL_areBursts_310 : decode cL_areBursts 310 = .ok (.invokevirtual 169, 3) := by decide +kernel
theorem dL_areBursts_313 : decode cL_areBursts 313 = .ok (.iadd, 1) := by decide +kernel
theorem dL_areBursts_314 : decode cL_areBursts 314 = .ok (.iload_n 1, 1) := by decide +kernel
theorem dL_areBursts_315 : decode cL_areBursts 315 = .ok (.iadd, 1) := by decide +kernel
theorem dL_areBursts_316 : decode cL_areBursts 316 = .ok (.if_icmp .lt 7, 3) := by decide +kernel
theorem dL_areBursts_319 : decode cL_areBursts 319 = .ok (.iconst 1, 1) := by decide +kernel
theorem dL_areBursts_320 : decode cL_areBursts 320 = .ok (.goto 4, 3) := by decide +kernel
theorem dL_areBursts_323 : decode cL_areBursts 323 = .ok (.iconst 0, 1) := by decide +kernel
theorem dL_areBursts_324 : decode cL_areBursts 324 = .ok (.istore 8, 2) := by decide +kernel
theorem dL_areBursts_326 : decode cL_areBursts 326 = .ok (.iload 7, 2) := by decide +kernel
theorem dL_areBursts_328 : decode cL_areBursts 328 = .ok (.ifCond .eq 10, 3) := by decide +kernel
theorem dL_areBursts_331 : decode cL_areBursts 331 = .ok (.iload 8, 2) := by decide +kernel
theorem dL_areBursts_333 : decode cL_areBursts 333 = .ok (.ifCond .ne 5, 3) := by decide +kernel
theorem dL_areBursts_336 : decode cL_areBursts 336 = .ok (.iconst 0, 1) := by decide +kernel
theorem dL_areBursts_337 : decode cL_areBursts 337 = .ok (.ireturn, 1) := by decide +kernel
theorem dL_areBursts_338 : decode cL_areBursts 338 = .ok (.iinc 6 1, 3) := by decide +kernel
theorem dL_areBursts_341 : decode cL_areBursts 341 = .ok (.goto (-156), 3) := by decide +kernel
theorem dL_areBursts_344 : decode cL_areBursts 344 = .ok (.aload_n 0, 1) := by decide +kernel
theorem dL_areBursts_345 : decode cL_areBursts 345 = .ok (.iload_n 3, 1) := by decide +kernel
theorem dL_areBursts_346 : decode cL_areBursts 346 = .ok (.invokevirtual 193, 3) := by decide +kernel
theorem dL_areBursts_349 : decode cL_areBursts 349 = .ok (.iload 5, 2) := by decide +kernel
theorem dL_areBursts_351 : decode cL_areBursts 351 = .ok (.if_icmp .ne 43, 3) := by decide +kernel
theorem dL_areBursts_354 : decode cL_areBursts 354 = .ok (.aload_n 0, 1) := by decide +kernel
theorem dL_areBursts_355 : decode cL_areBursts 355 = .ok (.aload_n 0, 1) := by decide +kernel
theorem dL_areBursts_356 : decode cL_areBursts 356 = .ok (.iload_n 3, 1) := by decide +kernel
theorem dL_areBursts_357 : decode cL_areBursts 357 = .ok (.invokevirtual 181, 3) := by decide +kernel
theorem dL_areBursts_360 : decode cL_areBursts 360 = .ok (.iload 4, 2) := by decide +kernel
theorem dL_areBursts_362 : decode cL_areBursts 362 = .ok (.invokevirtual 203, 3) := by decide +kernel
theorem dL_areBursts_365 : decode cL_areBursts 365 = .ok (.iload_n 3, 1) := by decide +kernel
theorem dL_areBursts_366 : decode cL_areBursts 366 = .ok (.if_icmp .ne 28, 3) := by decide +kernel
theorem dL_areBursts_369 : decode cL_areBursts 369 = .ok (.aload_n 0, 1) := by decide +kernel
theorem dL_areBursts_370 : decode cL_areBursts 370 = .ok (.aload_n 0, 1) := by decide +kernel
theorem dL_areBursts_371 : decode cL_areBursts 371 = .ok (.iload_n 3, 1) := by decide +kernel
theorem dL_areBursts_372 : decode cL_areBursts 372 = .ok (.invokevirtual 181, 3) := by decide +kernel
theorem dL_areBursts_375 : decode cL_areBursts 375 = .ok (.iload 4, 2) := by decide +kernel
theorem dL_areBursts_377 : decode cL_areBursts 377 = .ok (.aload_n 0, 1) := by decide +kernel
theorem dL_areBursts_378 : decode cL_areBursts 378 = .ok (.iload_n 3, 1) := by decide +kernel
theorem dL_areBursts_379 : decode cL_areBursts 379 = .ok (.invokevirtual 169, 3) := by decide +kernel
theorem dL_areBursts_382 : decode cL_areBursts 382 = .ok (.iadd, 1) := by decide +kernel
theorem dL_areBursts_383 : decode cL_areBursts 383 = .ok (.invokevirtual 203, 3) := by decide +kernel
theorem dL_areBursts_386 : decode cL_areBursts 386 = .ok (.iconst (-1), 1) := by decide +kernel
theorem dL_areBursts_387 : decode cL_areBursts 387 = .ok (.if_icmp .eq 9, 3) := by decide +kernel
theorem dL_areBursts_390 : decode cL_areBursts 390 = .ok (.iload_n 1, 1) := by decide +kernel
theorem dL_areBursts_391 : decode cL_areBursts 391 = .ok (.ifCond .le 5, 3) := by decide +kernel
theorem dL_areBursts_394 : decode cL_areBursts 394 = .ok (.iconst 0, 1) := by decide +kernel
theorem dL_areBursts_395 : decode cL_areBursts 395 = .ok (.ireturn, 1) := by decide +kernel
theorem dL_areBursts_396 : decode cL_areBursts 396 = .ok (.iinc 3 1, 3) := by decide +kernel
theorem dL_areBursts_399 : decode cL_areBursts 399 = .ok (.goto (-389), 3) := by decide +kernel
theorem dL_areBursts_402 : decode cL_areBursts 402 = .ok (.iconst 0, 1) := by decide +kernel
theorem dL_areBursts_403 : decode cL_areBursts 403 = .ok (.istore_n 3, 1) := by decide +kernel
theorem dL_areBursts_404 : decode cL_areBursts 404 = .ok (.iconst 0, 1) := by decide +kernel
theorem dL_areBursts_405 : decode cL_areBursts 405 = .ok (.istore 4, 2) := by decide +kernel
theorem dL_areBursts_407 : decode cL_areBursts 407 = .ok (.iload 4, 2) := by decide +kernel
theorem dL_areBursts_409 : decode cL_areBursts 409 = .ok (.aload_n 0, 1) := by decide +kernel
theorem dL_areBursts_410 : decode cL_areBursts 410 = .ok (.invokevirtual 206, 3) := by decide +kernel
theorem dL_areBursts_413 : decode cL_areBursts 413 = .ok (.if_icmp .ge 115, 3) := by decide +kernel
theorem dL_areBursts_416 : decode cL_areBursts 416 = .ok (.iload_n 2, 1) := by decide +kernel
theorem dL_areBursts_417 : decode cL_areBursts 417 = .ok (.aload_n 0, 1) := by decide +kernel
theorem dL_areBursts_418 : decode cL_areBursts 418 = .ok (.iload 4, 2) := by decide +kernel
theorem dL_areBursts_420 : decode cL_areBursts 420 = .ok (.invokevirtual 209, 3) := by decide +kernel
theorem dL_areBursts_423 : decode cL_areBursts 423 = .ok (.isub, 1) := by decide +kernel
theorem dL_areBursts_424 : decode cL_areBursts 424 = .ok (.istore_n 2, 1) := by decide +kernel
theorem dL_areBursts_425 : decode cL_areBursts 425 = .ok (.iconst 0, 1) := by decide +kernel
theorem dL_areBursts_426 : decode cL_areBursts 426 = .ok (.istore 5, 2) := by decide +kernel
theorem dL_areBursts_428 : decode cL_areBursts 428 = .ok (.iload 5, 2) := by decide +kernel
theorem dL_areBursts_430 : decode cL_areBursts 430 = .ok (.aload_n 0, 1) := by decide +kernel
theorem dL_areBursts_431 : decode cL_areBursts 431 = .ok (.iload 4, 2) := by decide +kernel
theorem dL_areBursts_433 : decode cL_areBursts 433 = .ok (.invokevirtual 212, 3) := by decide +kernel
theorem dL_areBursts_436 : decode cL_areBursts 436 = .ok (.if_icmp .ge 68, 3) := by decide +kernel
theorem dL_areBursts_439 : decode cL_areBursts 439 = .ok (.aload_n 0, 1) := by decide +kernel
theorem dL_areBursts_440 : decode cL_areBursts 440 = .ok (.iload 4, 2) := by decide +kernel
theorem dL_areBursts_442 : decode cL_areBursts 442 = .ok (.iload 5, 2) := by decide +kernel
theorem dL_areBursts_444 : decode cL_areBursts 444 = .ok (.invokevirtual 215, 3) := by decide +kernel
theorem dL_areBursts_447 : decode cL_areBursts 447 = .ok (.istore 6, 2) := by decide +kernel
theorem dL_areBursts_449 : decode cL_areBursts 449 = .ok (.iload 6, 2) := by decide +kernel
theorem dL_areBursts_451 : decode cL_areBursts 451 = .ok (.ifCond .lt 42, 3) := by decide +kernel
theorem dL_areBursts_454 : decode cL_areBursts 454 = .ok (.aload_n 0, 1) := by decide +kernel
theorem dL_areBursts_455 : decode cL_areBursts 455 = .ok (.iload 6, 2) := by decide +kernel
theorem dL_areBursts_457 : decode cL_areBursts 457 = .ok (.invokevirtual 181, 3) := by decide +kernel
theorem dL_areBursts_460 : decode cL_areBursts 460 = .ok (.iload 4, 2) := by decide +kernel
theorem dL_areBursts_462 : decode cL_areBursts 462 = .ok (.if_icmp .ne 31, 3) := by decide +kernel
theorem dL_areBursts_465 : decode cL_areBursts 465 = .ok (.iload 5, 2) := by decide +kernel
theorem dL_areBursts_467 : decode cL_areBursts 467 = .ok (.ifCond .le 28, 3) := by decide +kernel
theorem dL_areBursts_470 : decode cL_areBursts 470 = .ok (.aload_n 0, 1) := by decide +kernel
theorem dL_areBursts_471 : decode cL_areBursts 471 = .ok (.iload 6, 2) := by decide +kernel
theorem dL_areBursts_473 : decode cL_areBursts 473 = .ok (.invokevirtual 184, 3) := by decide +kernel
theorem dL_areBursts_476 : decode cL_areBursts 476 = .ok (.aload_n 0, 1) := by decide +kernel
theorem dL_areBursts_477 : decode cL_areBursts 477 = .ok (.aload_n 0, 1) := by decide +kernel
theorem dL_areBursts_478 : decode cL_areBursts 478 = .ok (.iload 4, 2) := by decide +kernel
theorem dL_areBursts_480 : decode cL_areBursts 480 = .ok (.iload 5, 2) := by decide +kernel
theorem dL_areBursts_482 : decode cL_areBursts 482 = .ok (.iconst 1, 1) := by decide +kernel
theorem dL_areBursts_483 : decode cL_areBursts 483 = .ok (.isub, 1) := by decide +kernel
theorem dL_areBursts_484 : decode cL_areBursts 484 = .ok (.invokevirtual 215, 3) := by decide +kernel
theorem dL_areBursts_487 : decode cL_areBursts 487 = .ok (.invokevirtual 184, 3) := by decide +kernel
theorem dL_areBursts_490 : decode cL_areBursts 490 = .ok (.if_icmp .gt 5, 3) := by decide +kernel
theorem dL_areBursts_493 : decode cL_areBursts 493 = .ok (.iconst 0, 1) := by decide +kernel
theorem dL_areBursts_494 : decode cL_areBursts 494 = .ok (.ireturn, 1) := by decide +kernel
theorem dL_areBursts_495 : decode cL_areBursts 495 = .ok (.iinc 3 1, 3) := by decide +kernel
theorem dL_areBursts_498 : decode cL_areBursts 498 = .ok (.iinc 5 1, 3) := by decide +kernel
theorem dL_areBursts_501 : decode cL_areBursts 501 = .ok (.goto (-73), 3) := by decide +kernel
theorem dL_areBursts_504 : decode cL_areBursts 504 = .ok (.aload_n 0, 1) := by decide +kernel
theorem dL_areBursts_505 : decode cL_areBursts 505 = .ok (.iload 4, 2) := by decide +kernel
theorem dL_areBursts_507 : decode cL_areBursts 507 = .ok (.aload_n 0, 1) := by decide +kernel
theorem dL_areBursts_508 : decode cL_areBursts 508 = .ok (.iload 4, 2) := by decide +kernel
theorem dL_areBursts_510 : decode cL_areBursts 510 = .ok (.invokevirtual 212, 3) := by decide +kernel
theorem dL_areBursts_513 : decode cL_areBursts 513 = .ok (.invokevirtual 215, 3) := by decide +kernel
theorem dL_areBursts_516 : decode cL_areBursts 516 = .ok (.iconst (-1), 1) := by decide +kernel
theorem dL_areBursts_517 : decode cL_areBursts 517 = .ok (.if_icmp .eq 5, 3) := by decide +kernel
theorem dL_areBursts_520 : decode cL_areBursts 520 = .ok (.iconst 0, 1) := by decide +kernel
theorem dL_areBursts_521 : decode cL_areBursts 521 = .ok (.ireturn, 1) := by decide +kernel
theorem dL_areBursts_522 : decode cL_areBursts 522 = .ok (.iinc 4 1, 3) := by decide +kernel
theorem dL_areBursts_525 : decode cL_areBursts 525 = .ok (.goto (-118), 3) := by decide +kernel
theorem dL_areBursts_528 : decode cL_areBursts 528 = .ok (.iconst 0, 1) := by decide +kernel
theorem dL_areBursts_529 : decode cL_areBursts 529 = .ok (.istore 4, 2) := by decide +kernel
theorem dL_areBursts_531 : decode cL_areBursts 531 = .ok (.iload 4, 2) := by decide +kernel
theorem dL_areBursts_533 : decode cL_areBursts 533 = .ok (.aload_n 0, 1) := by decide +kernel
theorem dL_areBursts_534 : decode cL_areBursts 534 = .ok (.invokevirtual 144, 3) := by decide +kernel
theorem dL_areBursts_537 : decode cL_areBursts 537 = .ok (.if_icmp .ge 27, 3) := by decide +kernel
theorem dL_areBursts_540 : decode cL_areBursts 540 = .ok (.iload_n 3, 1) := by decide +kernel
theorem dL_areBursts_541 : decode cL_areBursts 541 = .ok (.aload_n 0, 1) := by decide +kernel
theorem dL_areBursts_542 : decode cL_areBursts 542 = .ok (.iload 4, 2) := by decide +kernel
theorem dL_areBursts_544 : decode cL_areBursts 544 = .ok (.invokevirtual 178, 3) := by decide +kernel
theorem dL_areBursts_547 : decode cL_areBursts 547 = .ok (.iconst 1, 1) := by decide +kernel
theorem dL_areBursts_548 : decode cL_areBursts 548 = .ok (.if_icmp .ne 7, 3) := by decide +kernel
theorem dL_areBursts_551 : decode cL_areBursts 551 = .ok (.iconst 1, 1) := by decide +kernel
theorem dL_areBursts_552 : decode cL_areBursts 552 = .ok (.goto 4, 3) := by decide +kernel
theorem dL_areBursts_555 : decode cL_areBursts 555 = .ok (.iconst 0, 1) := by decide +kernel
theorem dL_areBursts_556 : decode cL_areBursts 556 = .ok (.isub, 1) := by decide +kernel
theorem dL_areBursts_557 : decode cL_areBursts 557 = .ok (.istore_n 3, 1) := by decide +kernel
theorem dL_areBursts_558 : decode cL_areBursts 558 = .ok (.iinc 4 1, 3) := by decide +kernel
theorem dL_areBursts_561 : decode cL_areBursts 561 = .ok (.goto (-30), 3) := by decide +kernel
theorem dL_areBursts_564 : decode cL_areBursts 564 = .ok (.iload_n 3, 1) := by decide +kernel
theorem dL_areBursts_565 : decode cL_areBursts 565 = .ok (.ifCond .ne 11, 3) := by decide +kernel
theorem dL_areBursts_568 : decode cL_areBursts 568 = .ok (.iload_n 2, 1) := by decide +kernel
theorem dL_areBursts_569 : decode cL_areBursts 569 = .ok (.ifCond .ne 7, 3) := by decide +kernel
theorem dL_areBursts_572 : decode cL_areBursts 572 = .ok (.iconst 1, 1) := by decide +kernel
theorem dL_areBursts_573 : decode cL_areBursts 573 = .ok (.goto 4, 3) := by decide +kernel
theorem dL_areBursts_576 : decode cL_areBursts 576 = .ok (.iconst 0, 1) := by decide +kernel
theorem dL_areBursts_577 : decode cL_areBursts 577 = .ok (.ireturn, 1) := by decide +kernel
theorem dL_isQueue_0 : decode cL_isQueue 0 = .ok (.iconst 0, 1) := by decide +kernel
theorem dL_isQueue_1 : decode cL_isQueue 1 = .ok (.istore_n 1, 1) := by decide +kernel
theorem dL_isQueue_2 : decode cL_isQueue 2 = .ok (.iconst 0, 1) := by decide +kernel
theorem dL_isQueue_3 : decode cL_isQueue 3 = .ok (.istore_n 2, 1) := by decide +kernel
theorem dL_isQueue_4 : decode cL_isQueue 4 = .ok (.iload_n 2, 1) := by decide +kernel
theorem dL_isQueue_5 : decode cL_isQueue 5 = .ok (.aload_n 0, 1) := by decide +kernel
theorem dL_isQueue_6 : decode cL_isQueue 6 = .ok (.invokevirtual 144, 3) := by decide +kernel
theorem dL_isQueue_9 : decode cL_isQueue 9 = .ok (.if_icmp .ge 25, 3) := by decide +kernel
theorem dL_isQueue_12 : decode cL_isQueue 12 = .ok (.iload_n 1, 1) := by decide +kernel
theorem dL_isQueue_13 : decode cL_isQueue 13 = .ok (.aload_n 0, 1) := by decide +kernel
theorem dL_isQueue_14 : decode cL_isQueue 14 = .ok (.iload_n 2, 1) := by decide +kernel
theorem dL_isQueue_15 : decode cL_isQueue 15 = .ok (.invokevirtual 178, 3) := by decide +kernel
theorem dL_isQueue_18 : decode cL_isQueue 18 = .ok (.ifCond .ne 7, 3) := by decide +kernel
theorem dL_isQueue_21 : decode cL_isQueue 21 = .ok (.iconst 1, 1) := by decide +kernel
theorem dL_isQueue_22 : decode cL_isQueue 22 = .ok (.goto 4, 3) := by decide +kernel
theorem dL_isQueue_25 : decode cL_isQueue 25 = .ok (.iconst 0, 1) := by decide +kernel
theorem dL_isQueue_26 : decode cL_isQueue 26 = .ok (.iadd, 1) := by decide +kernel
theorem dL_isQueue_27 : decode cL_isQueue 27 = .ok (.istore_n 1, 1) := by decide +kernel
theorem dL_isQueue_28 : decode cL_isQueue 28 = .ok (.iinc 2 1, 3) := by decide +kernel
theorem dL_isQueue_31 : decode cL_isQueue 31 = .ok (.goto (-27), 3) := by decide +kernel
theorem dL_isQueue_34 : decode cL_isQueue 34 = .ok (.aload_n 0, 1) := by decide +kernel
theorem dL_isQueue_35 : decode cL_isQueue 35 = .ok (.invokevirtual 218, 3) := by decide +kernel
theorem dL_isQueue_38 : decode cL_isQueue 38 = .ok (.iload_n 1, 1) := by decide +kernel
theorem dL_isQueue_39 : decode cL_isQueue 39 = .ok (.if_icmp .ne 21, 3) := by decide +kernel
theorem dL_isQueue_42 : decode cL_isQueue 42 = .ok (.aload_n 0, 1) := by decide +kernel
theorem dL_isQueue_43 : decode cL_isQueue 43 = .ok (.iload_n 1, 1) := by decide +kernel
theorem dL_isQueue_44 : decode cL_isQueue 44 = .ok (.invokevirtual 221, 3) := by decide +kernel
theorem dL_isQueue_47 : decode cL_isQueue 47 = .ok (.iconst (-1), 1) := by decide +kernel
theorem dL_isQueue_48 : decode cL_isQueue 48 = .ok (.if_icmp .ne 12, 3) := by decide +kernel
theorem dL_isQueue_51 : decode cL_isQueue 51 = .ok (.aload_n 0, 1) := by decide +kernel
theorem dL_isQueue_52 : decode cL_isQueue 52 = .ok (.iconst (-1), 1) := by decide +kernel
theorem dL_isQueue_53 : decode cL_isQueue 53 = .ok (.invokevirtual 221, 3) := by decide +kernel
theorem dL_isQueue_56 : decode cL_isQueue 56 = .ok (.iconst (-1), 1) := by decide +kernel
theorem dL_isQueue_57 : decode cL_isQueue 57 = .ok (.if_icmp .eq 5, 3) := by decide +kernel
theorem dL_isQueue_60 : decode cL_isQueue 60 = .ok (.iconst 0, 1) := by decide +kernel
theorem dL_isQueue_61 : decode cL_isQueue 61 = .ok (.ireturn, 1) := by decide +kernel
theorem dL_isQueue_62 : decode cL_isQueue 62 = .ok (.iconst 0, 1) := by decide +kernel
theorem dL_isQueue_63 : decode cL_isQueue 63 = .ok (.istore_n 2, 1) := by decide +kernel
theorem dL_isQueue_64 : decode cL_isQueue 64 = .ok (.iload_n 2, 1) := by decide +kernel
theorem dL_isQueue_65 : decode cL_isQueue 65 = .ok (.iload_n 1, 1) := by decide +kernel
theorem dL_isQueue_66 : decode cL_isQueue 66 = .ok (.if_icmp .ge 83, 3) := by decide +kernel
theorem dL_isQueue_69 : decode cL_isQueue 69 = .ok (.aload_n 0, 1) := by decide +kernel
theorem dL_isQueue_70 : decode cL_isQueue 70 = .ok (.iload_n 2, 1) := by decide +kernel
theorem dL_isQueue_71 : decode cL_isQueue 71 = .ok (.invokevirtual 221, 3) := by decide +kernel
theorem dL_isQueue_74 : decode cL_isQueue 74 = .ok (.istore_n 3, 1) := by decide +kernel
theorem dL_isQueue_75 : decode cL_isQueue 75 = .ok (.aload_n 0, 1) := by decide +kernel
theorem dL_isQueue_76 : decode cL_isQueue 76 = .ok (.iload_n 3, 1) := by decide +kernel
theorem dL_isQueue_77 : decode cL_isQueue 77 = .ok (.invokevirtual 178, 3) := by decide +kernel
theorem dL_isQueue_80 : decode cL_isQueue 80 = .ok (.ifCond .eq 5, 3) := by decide +kernel
theorem dL_isQueue_83 : decode cL_isQueue 83 = .ok (.iconst 0, 1) := by decide +kernel
theorem dL_isQueue_84 : decode cL_isQueue 84 = .ok (.ireturn, 1) := by decide +kernel
theorem dL_isQueue_85 : decode cL_isQueue 85 = .ok (.iload_n 2, 1) := by decide +kernel
theorem dL_isQueue_86 : decode cL_isQueue 86 = .ok (.ifCond .ne 7, 3) := by decide +kernel
theorem dL_isQueue_89 : decode cL_isQueue 89 = .ok (.iconst (-1), 1) := by decide +kernel
theorem dL_isQueue_90 : decode cL_isQueue 90 = .ok (.goto 10, 3) := by decide +kernel
theorem dL_isQueue_93 : decode cL_isQueue 93 = .ok (.aload_n 0, 1) := by decide +kernel
theorem dL_isQueue_94 : decode cL_isQueue 94 = .ok (.iload_n 2, 1) := by decide +kernel
theorem dL_isQueue_95 : decode cL_isQueue 95 = .ok (.iconst 1, 1) := by decide +kernel
theorem dL_isQueue_96 : decode cL_isQueue 96 = .ok (.isub, 1) := by decide +kernel
theorem dL_isQueue_97 : decode cL_isQueue 97 = .ok (.invokevirtual 221, 3) := by decide +kernel
theorem dL_isQueue_100 : decode cL_isQueue 100 = .ok (.istore 4, 2) := by decide +kernel
theorem dL_isQueue_102 : decode cL_isQueue 102 = .ok (.iload 4, 2) := by decide +kernel
theorem dL_isQueue_104 : decode cL_isQueue 104 = .ok (.ifCond .lt 39, 3) := by decide +kernel
theorem dL_isQueue_107 : decode cL_isQueue 107 = .ok (.aload_n 0, 1) := by decide +kernel
theorem dL_isQueue_108 : decode cL_isQueue 108 = .ok (.iload 4, 2) := by decide +kernel
theorem dL_isQueue_110 : decode cL_isQueue 110 = .ok (.invokevirtual 224, 3) := by decide +kernel
theorem dL_isQueue_113 : decode cL_isQueue 113 = .ok (.aload_n 0, 1) := by decide +kernel
theorem dL_isQueue_114 : decode cL_isQueue 114 = .ok (.iload_n 3, 1) := by decide +kernel
theorem dL_isQueue_115 : decode cL_isQueue 115 = .ok (.invokevirtual 224, 3) := by decide +kernel
theorem dL_isQueue_118 : decode cL_isQueue 118 = .ok (.if_icmp .lt 23, 3) := by decide +kernel
theorem dL_isQueue_121 : decode cL_isQueue 121 = .ok (.aload_n 0, 1) := by decide +kernel
theorem dL_isQueue_122 : decode cL_isQueue 122 = .ok (.iload 4, 2) := by decide +kernel
theorem dL_isQueue_124 : decode cL_isQueue 124 = .ok (.invokevirtual 224, 3) := by decide +kernel
theorem dL_isQueue_127 : decode cL_isQueue 127 = .ok (.aload_n 0, 1) := by decide +kernel
theorem dL_isQueue_128 : decode cL_isQueue 128 = .ok (.iload_n 3, 1) := by decide +kernel
theorem dL_isQueue_129 : decode cL_isQueue 129 = .ok (.invokevirtual 224, 3) := by decide +kernel
theorem dL_isQueue_132 : decode cL_isQueue 132 = .ok (.if_icmp .ne 11, 3) := by decide +kernel
theorem dL_isQueue_135 : decode cL_isQueue 135 = .ok (.iload 4, 2) := by decide +kernel
theorem dL_isQueue_137 : decode cL_isQueue 137 = .ok (.iload_n 3, 1) := by decide +kernel
theorem dL_isQueue_138 : decode cL_isQueue 138 = .ok (.if_icmp .le 5, 3) := by decide +kernel
theorem dL_isQueue_141 : decode cL_isQueue 141 = .ok (.iconst 0, 1) := by decide +kernel
theorem dL_isQueue_142 : decode cL_isQueue 142 = .ok (.ireturn, 1) := by decide +kernel
theorem dL_isQueue_143 : decode cL_isQueue 143 = .ok (.iinc 2 1, 3) := by decide +kernel
theorem dL_isQueue_146 : decode cL_isQueue 146 = .ok (.goto (-82), 3) := by decide +kernel
theorem dL_isQueue_149 : decode cL_isQueue 149 = .ok (.iconst 1, 1) := by decide +kernel
theorem dL_isQueue_150 : decode cL_isQueue 150 = .ok (.ireturn, 1) := by decide +kernel
theorem dL_law_0 : decode cL_law 0 = .ok (.aload_n 0, 1) := by decide +kernel
theorem dL_law_1 : decode cL_law 1 = .ok (.invokestatic 227, 3) := by decide +kernel
theorem dL_law_4 : decode cL_law 4 = .ok (.astore_n 1, 1) := by decide +kernel
theorem dL_law_5 : decode cL_law 5 = .ok (.aload_n 1, 1) := by decide +kernel
theorem dL_law_6 : decode cL_law 6 = .ok (.ifnonnull 5, 3) := by decide +kernel
theorem dL_law_9 : decode cL_law 9 = .ok (.iconst 0, 1) := by decide +kernel
theorem dL_law_10 : decode cL_law 10 = .ok (.ireturn, 1) := by decide +kernel
theorem dL_law_11 : decode cL_law 11 = .ok (.iconst 0, 1) := by decide +kernel
theorem dL_law_12 : decode cL_law 12 = .ok (.istore_n 2, 1) := by decide +kernel
theorem dL_law_13 : decode cL_law 13 = .ok (.iload_n 2, 1) := by decide +kernel
theorem dL_law_14 : decode cL_law 14 = .ok (.aload_n 0, 1) := by decide +kernel
theorem dL_law_15 : decode cL_law 15 = .ok (.invokestatic 52, 3) := by decide +kernel
theorem dL_law_18 : decode cL_law 18 = .ok (.if_icmp .ge 40, 3) := by decide +kernel
theorem dL_law_21 : decode cL_law 21 = .ok (.iconst 0, 1) := by decide +kernel
theorem dL_law_22 : decode cL_law 22 = .ok (.istore_n 3, 1) := by decide +kernel
theorem dL_law_23 : decode cL_law 23 = .ok (.iload_n 3, 1) := by decide +kernel
theorem dL_law_24 : decode cL_law 24 = .ok (.bipush 30, 2) := by decide +kernel
theorem dL_law_26 : decode cL_law 26 = .ok (.if_icmp .ge 26, 3) := by decide +kernel
theorem dL_law_29 : decode cL_law 29 = .ok (.aload_n 1, 1) := by decide +kernel
theorem dL_law_30 : decode cL_law 30 = .ok (.iload_n 2, 1) := by decide +kernel
theorem dL_law_31 : decode cL_law 31 = .ok (.iload_n 3, 1) := by decide +kernel
theorem dL_law_32 : decode cL_law 32 = .ok (.invokevirtual 231, 3) := by decide +kernel
theorem dL_law_35 : decode cL_law 35 = .ok (.aload_n 0, 1) := by decide +kernel
theorem dL_law_36 : decode cL_law 36 = .ok (.iload_n 2, 1) := by decide +kernel
theorem dL_law_37 : decode cL_law 37 = .ok (.iload_n 3, 1) := by decide +kernel
theorem dL_law_38 : decode cL_law 38 = .ok (.invokestatic 234, 3) := by decide +kernel
theorem dL_law_41 : decode cL_law 41 = .ok (.if_icmp .eq 5, 3) := by decide +kernel
theorem dL_law_44 : decode cL_law 44 = .ok (.iconst 0, 1) := by decide +kernel
theorem dL_law_45 : decode cL_law 45 = .ok (.ireturn, 1) := by decide +kernel
theorem dL_law_46 : decode cL_law 46 = .ok (.iinc 3 1, 3) := by decide +kernel
theorem dL_law_49 : decode cL_law 49 = .ok (.goto (-26), 3) := by decide +kernel
theorem dL_law_52 : decode cL_law 52 = .ok (.iinc 2 1, 3) := by decide +kernel
theorem dL_law_55 : decode cL_law 55 = .ok (.goto (-42), 3) := by decide +kernel
theorem dL_law_58 : decode cL_law 58 = .ok (.iconst 0, 1) := by decide +kernel
theorem dL_law_59 : decode cL_law 59 = .ok (.istore_n 2, 1) := by decide +kernel
theorem dL_law_60 : decode cL_law 60 = .ok (.iload_n 2, 1) := by decide +kernel
theorem dL_law_61 : decode cL_law 61 = .ok (.aload_n 0, 1) := by decide +kernel
theorem dL_law_62 : decode cL_law 62 = .ok (.invokestatic 116, 3) := by decide +kernel
theorem dL_law_65 : decode cL_law 65 = .ok (.if_icmp .ge 70, 3) := by decide +kernel
theorem dL_law_68 : decode cL_law 68 = .ok (.aload_n 1, 1) := by decide +kernel
theorem dL_law_69 : decode cL_law 69 = .ok (.iload_n 2, 1) := by decide +kernel
theorem dL_law_70 : decode cL_law 70 = .ok (.invokevirtual 172, 3) := by decide +kernel
theorem dL_law_73 : decode cL_law 73 = .ok (.aload_n 0, 1) := by decide +kernel
theorem dL_law_74 : decode cL_law 74 = .ok (.iload_n 2, 1) := by decide +kernel
theorem dL_law_75 : decode cL_law 75 = .ok (.iconst 0, 1) := by decide +kernel
theorem dL_law_76 : decode cL_law 76 = .ok (.invokestatic 121, 3) := by decide +kernel
theorem dL_law_79 : decode cL_law 79 = .ok (.if_icmp .ne 48, 3) := by decide +kernel
theorem dL_law_82 : decode cL_law 82 = .ok (.aload_n 1, 1) := by decide +kernel
theorem dL_law_83 : decode cL_law 83 = .ok (.iload_n 2, 1) := by decide +kernel
theorem dL_law_84 : decode cL_law 84 = .ok (.invokevirtual 175, 3) := by decide +kernel
theorem dL_law_87 : decode cL_law 87 = .ok (.aload_n 0, 1) := by decide +kernel
theorem dL_law_88 : decode cL_law 88 = .ok (.iload_n 2, 1) := by decide +kernel
theorem dL_law_89 : decode cL_law 89 = .ok (.iconst 1, 1) := by decide +kernel
theorem dL_law_90 : decode cL_law 90 = .ok (.invokestatic 121, 3) := by decide +kernel
theorem dL_law_93 : decode cL_law 93 = .ok (.if_icmp .ne 34, 3) := by decide +kernel
theorem dL_law_96 : decode cL_law 96 = .ok (.aload_n 1, 1) := by decide +kernel
theorem dL_law_97 : decode cL_law 97 = .ok (.iload_n 2, 1) := by decide +kernel
theorem dL_law_98 : decode cL_law 98 = .ok (.invokevirtual 224, 3) := by decide +kernel
theorem dL_law_101 : decode cL_law 101 = .ok (.aload_n 0, 1) := by decide +kernel
theorem dL_law_102 : decode cL_law 102 = .ok (.iload_n 2, 1) := by decide +kernel
theorem dL_law_103 : decode cL_law 103 = .ok (.iconst 2, 1) := by decide +kernel
theorem dL_law_104 : decode cL_law 104 = .ok (.invokestatic 121, 3) := by decide +kernel
theorem dL_law_107 : decode cL_law 107 = .ok (.if_icmp .ne 20, 3) := by decide +kernel
theorem dL_law_110 : decode cL_law 110 = .ok (.aload_n 1, 1) := by decide +kernel
theorem dL_law_111 : decode cL_law 111 = .ok (.iload_n 2, 1) := by decide +kernel
theorem dL_law_112 : decode cL_law 112 = .ok (.invokevirtual 169, 3) := by decide +kernel
theorem dL_law_115 : decode cL_law 115 = .ok (.bipush 20, 2) := by decide +kernel
theorem dL_law_117 : decode cL_law 117 = .ok (.aload_n 0, 1) := by decide +kernel
theorem dL_law_118 : decode cL_law 118 = .ok (.iload_n 2, 1) := by decide +kernel
theorem dL_law_119 : decode cL_law 119 = .ok (.iconst 3, 1) := by decide +kernel
theorem dL_law_120 : decode cL_law 120 = .ok (.invokestatic 121, 3) := by decide +kernel
theorem dL_law_123 : decode cL_law 123 = .ok (.iadd, 1) := by decide +kernel
theorem dL_law_124 : decode cL_law 124 = .ok (.if_icmp .eq 5, 3) := by decide +kernel
theorem dL_law_127 : decode cL_law 127 = .ok (.iconst 0, 1) := by decide +kernel
theorem dL_law_128 : decode cL_law 128 = .ok (.ireturn, 1) := by decide +kernel
theorem dL_law_129 : decode cL_law 129 = .ok (.iinc 2 1, 3) := by decide +kernel
theorem dL_law_132 : decode cL_law 132 = .ok (.goto (-72), 3) := by decide +kernel
theorem dL_law_135 : decode cL_law 135 = .ok (.iconst 0, 1) := by decide +kernel
theorem dL_law_136 : decode cL_law 136 = .ok (.istore_n 2, 1) := by decide +kernel
theorem dL_law_137 : decode cL_law 137 = .ok (.iload_n 2, 1) := by decide +kernel
theorem dL_law_138 : decode cL_law 138 = .ok (.bipush 10, 2) := by decide +kernel
theorem dL_law_140 : decode cL_law 140 = .ok (.if_icmp .ge 38, 3) := by decide +kernel
theorem dL_law_143 : decode cL_law 143 = .ok (.aload_n 1, 1) := by decide +kernel
theorem dL_law_144 : decode cL_law 144 = .ok (.invokestatic 236, 3) := by decide +kernel
theorem dL_law_147 : decode cL_law 147 = .ok (.ifCond .eq 10, 3) := by decide +kernel
theorem dL_law_150 : decode cL_law 150 = .ok (.aload_n 1, 1) := by decide +kernel
theorem dL_law_151 : decode cL_law 151 = .ok (.invokestatic 240, 3) := by decide +kernel
theorem dL_law_154 : decode cL_law 154 = .ok (.ifCond .ne 5, 3) := by decide +kernel
theorem dL_law_157 : decode cL_law 157 = .ok (.iconst 0, 1) := by decide +kernel
theorem dL_law_158 : decode cL_law 158 = .ok (.ireturn, 1) := by decide +kernel
theorem dL_law_159 : decode cL_law 159 = .ok (.aload_n 1, 1) := by decide +kernel
theorem dL_law_160 : decode cL_law 160 = .ok (.aload_n 0, 1) := by decide +kernel
theorem dL_law_161 : decode cL_law 161 = .ok (.aload_n 0, 1) := by decide +kernel
theorem dL_law_162 : decode cL_law 162 = .ok (.bipush 14, 2) := by decide +kernel
theorem dL_law_164 : decode cL_law 164 = .ok (.iload_n 2, 1) := by decide +kernel
theorem dL_law_165 : decode cL_law 165 = .ok (.iadd, 1) := by decide +kernel
theorem dL_law_166 : decode cL_law 166 = .ok (.invokestatic 37, 3) := by decide +kernel
theorem dL_law_169 : decode cL_law 169 = .ok (.invokestatic 243, 3) := by decide +kernel
theorem dL_law_172 : decode cL_law 172 = .ok (.iinc 2 1, 3) := by decide +kernel
theorem dL_law_175 : decode cL_law 175 = .ok (.goto (-38), 3) := by decide +kernel
theorem dL_law_178 : decode cL_law 178 = .ok (.aload_n 1, 1) := by decide +kernel
theorem dL_law_179 : decode cL_law 179 = .ok (.invokestatic 236, 3) := by decide +kernel
theorem dL_law_182 : decode cL_law 182 = .ok (.ifCond .eq 36, 3) := by decide +kernel
theorem dL_law_185 : decode cL_law 185 = .ok (.aload_n 1, 1) := by decide +kernel
theorem dL_law_186 : decode cL_law 186 = .ok (.invokestatic 240, 3) := by decide +kernel
theorem dL_law_189 : decode cL_law 189 = .ok (.ifCond .eq 29, 3) := by decide +kernel
theorem dL_law_192 : decode cL_law 192 = .ok (.aload_n 1, 1) := by decide +kernel
theorem dL_law_193 : decode cL_law 193 = .ok (.invokevirtual 206, 3) := by decide +kernel
theorem dL_law_196 : decode cL_law 196 = .ok (.aload_n 0, 1) := by decide +kernel
theorem dL_law_197 : decode cL_law 197 = .ok (.invokestatic 67, 3) := by decide +kernel
theorem dL_law_200 : decode cL_law 200 = .ok (.if_icmp .ne 18, 3) := by decide +kernel
theorem dL_law_203 : decode cL_law 203 = .ok (.aload_n 1, 1) := by decide +kernel
theorem dL_law_204 : decode cL_law 204 = .ok (.invokevirtual 247, 3) := by decide +kernel
theorem dL_law_207 : decode cL_law 207 = .ok (.aload_n 0, 1) := by decide +kernel
theorem dL_law_208 : decode cL_law 208 = .ok (.invokestatic 52, 3) := by decide +kernel
theorem dL_law_211 : decode cL_law 211 = .ok (.if_icmp .ne 7, 3) := by decide +kernel
theorem dL_law_214 : decode cL_law 214 = .ok (.iconst 1, 1) := by decide +kernel
theorem dL_law_215 : decode cL_law 215 = .ok (.goto 4, 3) := by decide +kernel
theorem dL_law_218 : decode cL_law 218 = .ok (.iconst 0, 1) := by decide +kernel
theorem dL_law_219 : decode cL_law 219 = .ok (.ireturn, 1) := by decide +kernel
theorem dJ6_getChars_ba4f3_0 : decode cJ6_getChars_ba4f3 0 = .ok (.iload_n 1, 1) := by decide +kernel
theorem dJ6_getChars_ba4f3_1 : decode cJ6_getChars_ba4f3 1 = .ok (.istore 5, 2) := by decide +kernel
theorem dJ6_getChars_ba4f3_3 : decode cJ6_getChars_ba4f3 3 = .ok (.iload_n 0, 1) := by decide +kernel
theorem dJ6_getChars_ba4f3_4 : decode cJ6_getChars_ba4f3 4 = .ok (.ifCond .ge 7, 3) := by decide +kernel
theorem dJ6_getChars_ba4f3_7 : decode cJ6_getChars_ba4f3 7 = .ok (.iconst 1, 1) := by decide +kernel
theorem dJ6_getChars_ba4f3_8 : decode cJ6_getChars_ba4f3 8 = .ok (.goto 4, 3) := by decide +kernel
theorem dJ6_getChars_ba4f3_11 : decode cJ6_getChars_ba4f3 11 = .ok (.iconst 0, 1) := by decide +kernel
theorem dJ6_getChars_ba4f3_12 : decode cJ6_getChars_ba4f3 12 = .ok (.istore 6, 2) := by decide +kernel
theorem dJ6_getChars_ba4f3_14 : decode cJ6_getChars_ba4f3 14 = .ok (.iload 6, 2) := by decide +kernel
theorem dJ6_getChars_ba4f3_16 : decode cJ6_getChars_ba4f3 16 = .ok (.ifCond .ne 6, 3) := by decide +kernel
theorem dJ6_getChars_ba4f3_19 : decode cJ6_getChars_ba4f3 19 = .ok (.iload_n 0, 1) := by decide +kernel
theorem dJ6_getChars_ba4f3_20 : decode cJ6_getChars_ba4f3 20 = .ok (.ineg, 1) := by decide +kernel
theorem dJ6_getChars_ba4f3_21 : decode cJ6_getChars_ba4f3 21 = .ok (.istore_n 0, 1) := by decide +kernel
theorem dJ6_getChars_ba4f3_22 : decode cJ6_getChars_ba4f3 22 = .ok (.iload_n 0, 1) := by decide +kernel
theorem dJ6_getChars_ba4f3_23 : decode cJ6_getChars_ba4f3 23 = .ok (.bipush (-100), 2) := by decide +kernel
theorem dJ6_getChars_ba4f3_25 : decode cJ6_getChars_ba4f3 25 = .ok (.if_icmp .gt 47, 3) := by decide +kernel
theorem dJ6_getChars_ba4f3_28 : decode cJ6_getChars_ba4f3 28 = .ok (.iload_n 0, 1) := by decide +kernel
theorem dJ6_getChars_ba4f3_29 : decode cJ6_getChars_ba4f3 29 = .ok (.bipush 100, 2) := by decide +kernel
theorem dJ6_getChars_ba4f3_31 : decode cJ6_getChars_ba4f3 31 = .ok (.idiv, 1) := by decide +kernel
theorem dJ6_getChars_ba4f3_32 : decode cJ6_getChars_ba4f3 32 = .ok (.istore_n 3, 1) := by decide +kernel
theorem dJ6_getChars_ba4f3_33 : decode cJ6_getChars_ba4f3 33 = .ok (.iload_n 3, 1) := by decide +kernel
theorem dJ6_getChars_ba4f3_34 : decode cJ6_getChars_ba4f3 34 = .ok (.bipush 100, 2) := by decide +kernel
theorem dJ6_getChars_ba4f3_36 : decode cJ6_getChars_ba4f3 36 = .ok (.imul, 1) := by decide +kernel
theorem dJ6_getChars_ba4f3_37 : decode cJ6_getChars_ba4f3 37 = .ok (.iload_n 0, 1) := by decide +kernel
theorem dJ6_getChars_ba4f3_38 : decode cJ6_getChars_ba4f3 38 = .ok (.isub, 1) := by decide +kernel
theorem dJ6_getChars_ba4f3_39 : decode cJ6_getChars_ba4f3 39 = .ok (.istore 4, 2) := by decide +kernel
theorem dJ6_getChars_ba4f3_41 : decode cJ6_getChars_ba4f3 41 = .ok (.iload_n 3, 1) := by decide +kernel
theorem dJ6_getChars_ba4f3_42 : decode cJ6_getChars_ba4f3 42 = .ok (.istore_n 0, 1) := by decide +kernel
theorem dJ6_getChars_ba4f3_43 : decode cJ6_getChars_ba4f3 43 = .ok (.aload_n 2, 1) := by decide +kernel
theorem dJ6_getChars_ba4f3_44 : decode cJ6_getChars_ba4f3 44 = .ok (.iinc 5 (-1), 3) := by decide +kernel
theorem dJ6_getChars_ba4f3_47 : decode cJ6_getChars_ba4f3 47 = .ok (.iload 5, 2) := by decide +kernel
theorem dJ6_getChars_ba4f3_49 : decode cJ6_getChars_ba4f3 49 = .ok (.getstatic 83, 3) := by decide +kernel
theorem dJ6_getChars_ba4f3_52 : decode cJ6_getChars_ba4f3 52 = .ok (.iload 4, 2) := by decide +kernel
theorem dJ6_getChars_ba4f3_54 : decode cJ6_getChars_ba4f3 54 = .ok (.baload, 1) := by decide +kernel
theorem dJ6_getChars_ba4f3_55 : decode cJ6_getChars_ba4f3 55 = .ok (.bastore, 1) := by decide +kernel
theorem dJ6_getChars_ba4f3_56 : decode cJ6_getChars_ba4f3 56 = .ok (.aload_n 2, 1) := by decide +kernel
theorem dJ6_getChars_ba4f3_57 : decode cJ6_getChars_ba4f3 57 = .ok (.iinc 5 (-1), 3) := by decide +kernel
theorem dJ6_getChars_ba4f3_60 : decode cJ6_getChars_ba4f3 60 = .ok (.iload 5, 2) := by decide +kernel
theorem dJ6_getChars_ba4f3_62 : decode cJ6_getChars_ba4f3 62 = .ok (.getstatic 87, 3) := by decide +kernel
theorem dJ6_getChars_ba4f3_65 : decode cJ6_getChars_ba4f3 65 = .ok (.iload 4, 2) := by decide +kernel
theorem dJ6_getChars_ba4f3_67 : decode cJ6_getChars_ba4f3 67 = .ok (.baload, 1) := by decide +kernel
theorem dJ6_getChars_ba4f3_68 : decode cJ6_getChars_ba4f3 68 = .ok (.bastore, 1) := by decide +kernel
theorem dJ6_getChars_ba4f3_69 : decode cJ6_getChars_ba4f3 69 = .ok (.goto (-47), 3) := by decide +kernel
theorem dJ6_getChars_ba4f3_72 : decode cJ6_getChars_ba4f3 72 = .ok (.aload_n 2, 1) := by decide +kernel
theorem dJ6_getChars_ba4f3_73 : decode cJ6_getChars_ba4f3 73 = .ok (.iinc 5 (-1), 3) := by decide +kernel
theorem dJ6_getChars_ba4f3_76 : decode cJ6_getChars_ba4f3 76 = .ok (.iload 5, 2) := by decide +kernel
theorem dJ6_getChars_ba4f3_78 : decode cJ6_getChars_ba4f3 78 = .ok (.getstatic 83, 3) := by decide +kernel
theorem dJ6_getChars_ba4f3_81 : decode cJ6_getChars_ba4f3 81 = .ok (.iload_n 0, 1) := by decide +kernel
theorem dJ6_getChars_ba4f3_82 : decode cJ6_getChars_ba4f3 82 = .ok (.ineg, 1) := by decide +kernel
theorem dJ6_getChars_ba4f3_83 : decode cJ6_getChars_ba4f3 83 = .ok (.baload, 1) := by decide +kernel
theorem dJ6_getChars_ba4f3_84 : decode cJ6_getChars_ba4f3 84 = .ok (.bastore, 1) := by decide +kernel
theorem dJ6_getChars_ba4f3_85 : decode cJ6_getChars_ba4f3 85 = .ok (.iload_n 0, 1) := by decide +kernel
theorem dJ6_getChars_ba4f3_86 : decode cJ6_getChars_ba4f3 86 = .ok (.bipush (-9), 2) := by decide +kernel
theorem dJ6_getChars_ba4f3_88 : decode cJ6_getChars_ba4f3 88 = .ok (.if_icmp .ge 16, 3) := by decide +kernel
theorem dJ6_getChars_ba4f3_91 : decode cJ6_getChars_ba4f3 91 = .ok (.aload_n 2, 1) := by decide +kernel
theorem dJ6_getChars_ba4f3_92 : decode cJ6_getChars_ba4f3 92 = .ok (.iinc 5 (-1), 3) := by decide +kernel
theorem dJ6_getChars_ba4f3_95 : decode cJ6_getChars_ba4f3 95 = .ok (.iload 5, 2) := by decide +kernel
theorem dJ6_getChars_ba4f3_97 : decode cJ6_getChars_ba4f3 97 = .ok (.getstatic 87, 3) := by decide +kernel
theorem dJ6_getChars_ba4f3_100 : decode cJ6_getChars_ba4f3 100 = .ok (.iload_n 0, 1) := by decide +kernel
theorem dJ6_getChars_ba4f3_101 : decode cJ6_getChars_ba4f3 101 = .ok (.ineg, 1) := by decide +kernel
theorem dJ6_getChars_ba4f3_102 : decode cJ6_getChars_ba4f3 102 = .ok (.baload, 1) := by decide +kernel
theorem dJ6_getChars_ba4f3_103 : decode cJ6_getChars_ba4f3 103 = .ok (.bastore, 1) := by decide +kernel
theorem dJ6_getChars_ba4f3_104 : decode cJ6_getChars_ba4f3 104 = .ok (.iload 6, 2) := by decide +kernel
theorem dJ6_getChars_ba4f3_106 : decode cJ6_getChars_ba4f3 106 = .ok (.ifCond .eq 12, 3) := by decide +kernel
theorem dJ6_getChars_ba4f3_109 : decode cJ6_getChars_ba4f3 109 = .ok (.aload_n 2, 1) := by decide +kernel
theorem dJ6_getChars_ba4f3_110 : decode cJ6_getChars_ba4f3 110 = .ok (.iinc 5 (-1), 3) := by decide +kernel
theorem dJ6_getChars_ba4f3_113 : decode cJ6_getChars_ba4f3 113 = .ok (.iload 5, 2) := by decide +kernel
theorem dJ6_getChars_ba4f3_115 : decode cJ6_getChars_ba4f3 115 = .ok (.bipush 45, 2) := by decide +kernel
theorem dJ6_getChars_ba4f3_117 : decode cJ6_getChars_ba4f3 117 = .ok (.bastore, 1) := by decide +kernel
theorem dJ6_getChars_ba4f3_118 : decode cJ6_getChars_ba4f3 118 = .ok (.iload 5, 2) := by decide +kernel
theorem dJ6_getChars_ba4f3_120 : decode cJ6_getChars_ba4f3 120 = .ok (.ireturn, 1) := by decide +kernel
theorem dJ6_stringSize_0f7a4_0 : decode cJ6_stringSize_0f7a4 0 = .ok (.iconst 1, 1) := by decide +kernel
theorem dJ6_stringSize_0f7a4_1 : decode cJ6_stringSize_0f7a4 1 = .ok (.istore_n 1, 1) := by decide +kernel
theorem dJ6_stringSize_0f7a4_2 : decode cJ6_stringSize_0f7a4 2 = .ok (.iload_n 0, 1) := by decide +kernel
theorem dJ6_stringSize_0f7a4_3 : decode cJ6_stringSize_0f7a4 3 = .ok (.ifCond .lt 8, 3) := by decide +kernel
theorem dJ6_stringSize_0f7a4_6 : decode cJ6_stringSize_0f7a4 6 = .ok (.iconst 0, 1) := by decide +kernel
theorem dJ6_stringSize_0f7a4_7 : decode cJ6_stringSize_0f7a4 7 = .ok (.istore_n 1, 1) := by decide +kernel
theorem dJ6_stringSize_0f7a4_8 : decode cJ6_stringSize_0f7a4 8 = .ok (.iload_n 0, 1) := by decide +kernel
theorem dJ6_stringSize_0f7a4_9 : decode cJ6_stringSize_0f7a4 9 = .ok (.ineg, 1) := by decide +kernel
theorem dJ6_stringSize_0f7a4_10 : decode cJ6_stringSize_0f7a4 10 = .ok (.istore_n 0, 1) := by decide +kernel
theorem dJ6_stringSize_0f7a4_11 : decode cJ6_stringSize_0f7a4 11 = .ok (.bipush (-10), 2) := by decide +kernel
theorem dJ6_stringSize_0f7a4_13 : decode cJ6_stringSize_0f7a4 13 = .ok (.istore_n 2, 1) := by decide +kernel
theorem dJ6_stringSize_0f7a4_14 : decode cJ6_stringSize_0f7a4 14 = .ok (.iconst 1, 1) := by decide +kernel
theorem dJ6_stringSize_0f7a4_15 : decode cJ6_stringSize_0f7a4 15 = .ok (.istore_n 3, 1) := by decide +kernel
theorem dJ6_stringSize_0f7a4_16 : decode cJ6_stringSize_0f7a4 16 = .ok (.iload_n 3, 1) := by decide +kernel
theorem dJ6_stringSize_0f7a4_17 : decode cJ6_stringSize_0f7a4 17 = .ok (.bipush 10, 2) := by decide +kernel
theorem dJ6_stringSize_0f7a4_19 : decode cJ6_stringSize_0f7a4 19 = .ok (.if_icmp .ge 23, 3) := by decide +kernel
theorem dJ6_stringSize_0f7a4_22 : decode cJ6_stringSize_0f7a4 22 = .ok (.iload_n 0, 1) := by decide +kernel
theorem dJ6_stringSize_0f7a4_23 : decode cJ6_stringSize_0f7a4 23 = .ok (.iload_n 2, 1) := by decide +kernel
theorem dJ6_stringSize_0f7a4_24 : decode cJ6_stringSize_0f7a4 24 = .ok (.if_icmp .le 7, 3) := by decide +kernel
theorem dJ6_stringSize_0f7a4_27 : decode cJ6_stringSize_0f7a4 27 = .ok (.iload_n 3, 1) := by decide +kernel
theorem dJ6_stringSize_0f7a4_28 : decode cJ6_stringSize_0f7a4 28 = .ok (.iload_n 1, 1) := by decide +kernel
theorem dJ6_stringSize_0f7a4_29 : decode cJ6_stringSize_0f7a4 29 = .ok (.iadd, 1) := by decide +kernel
theorem dJ6_stringSize_0f7a4_30 : decode cJ6_stringSize_0f7a4 30 = .ok (.ireturn, 1) := by decide +kernel
theorem dJ6_stringSize_0f7a4_31 : decode cJ6_stringSize_0f7a4 31 = .ok (.bipush 10, 2) := by decide +kernel
theorem dJ6_stringSize_0f7a4_33 : decode cJ6_stringSize_0f7a4 33 = .ok (.iload_n 2, 1) := by decide +kernel
theorem dJ6_stringSize_0f7a4_34 : decode cJ6_stringSize_0f7a4 34 = .ok (.imul, 1) := by decide +kernel
theorem dJ6_stringSize_0f7a4_35 : decode cJ6_stringSize_0f7a4 35 = .ok (.istore_n 2, 1) := by decide +kernel
theorem dJ6_stringSize_0f7a4_36 : decode cJ6_stringSize_0f7a4 36 = .ok (.iinc 3 1, 3) := by decide +kernel
theorem dJ6_stringSize_0f7a4_39 : decode cJ6_stringSize_0f7a4 39 = .ok (.goto (-23), 3) := by decide +kernel
theorem dJ6_stringSize_0f7a4_42 : decode cJ6_stringSize_0f7a4 42 = .ok (.bipush 10, 2) := by decide +kernel
theorem dJ6_stringSize_0f7a4_44 : decode cJ6_stringSize_0f7a4 44 = .ok (.iload_n 1, 1) := by decide +kernel
theorem dJ6_stringSize_0f7a4_45 : decode cJ6_stringSize_0f7a4 45 = .ok (.iadd, 1) := by decide +kernel
theorem dJ6_stringSize_0f7a4_46 : decode cJ6_stringSize_0f7a4 46 = .ok (.ireturn, 1) := by decide +kernel
theorem dJ6_bitCount_0f7a4_0 : decode cJ6_bitCount_0f7a4 0 = .ok (.iload_n 0, 1) := by decide +kernel
theorem dJ6_bitCount_0f7a4_1 : decode cJ6_bitCount_0f7a4 1 = .ok (.iload_n 0, 1) := by decide +kernel
theorem dJ6_bitCount_0f7a4_2 : decode cJ6_bitCount_0f7a4 2 = .ok (.iconst 1, 1) := by decide +kernel
theorem dJ6_bitCount_0f7a4_3 : decode cJ6_bitCount_0f7a4 3 = .ok (.iushr, 1) := by decide +kernel
theorem dJ6_bitCount_0f7a4_4 : decode cJ6_bitCount_0f7a4 4 = .ok (.ldc_w 265, 3) := by decide +kernel
theorem dJ6_bitCount_0f7a4_7 : decode cJ6_bitCount_0f7a4 7 = .ok (.iand, 1) := by decide +kernel
theorem dJ6_bitCount_0f7a4_8 : decode cJ6_bitCount_0f7a4 8 = .ok (.isub, 1) := by decide +kernel
theorem dJ6_bitCount_0f7a4_9 : decode cJ6_bitCount_0f7a4 9 = .ok (.istore_n 0, 1) := by decide +kernel
theorem dJ6_bitCount_0f7a4_10 : decode cJ6_bitCount_0f7a4 10 = .ok (.iload_n 0, 1) := by decide +kernel
theorem dJ6_bitCount_0f7a4_11 : decode cJ6_bitCount_0f7a4 11 = .ok (.ldc_w 266, 3) := by decide +kernel
theorem dJ6_bitCount_0f7a4_14 : decode cJ6_bitCount_0f7a4 14 = .ok (.iand, 1) := by decide +kernel
theorem dJ6_bitCount_0f7a4_15 : decode cJ6_bitCount_0f7a4 15 = .ok (.iload_n 0, 1) := by decide +kernel
theorem dJ6_bitCount_0f7a4_16 : decode cJ6_bitCount_0f7a4 16 = .ok (.iconst 2, 1) := by decide +kernel
theorem dJ6_bitCount_0f7a4_17 : decode cJ6_bitCount_0f7a4 17 = .ok (.iushr, 1) := by decide +kernel
theorem dJ6_bitCount_0f7a4_18 : decode cJ6_bitCount_0f7a4 18 = .ok (.ldc_w 266, 3) := by decide +kernel
theorem dJ6_bitCount_0f7a4_21 : decode cJ6_bitCount_0f7a4 21 = .ok (.iand, 1) := by decide +kernel
theorem dJ6_bitCount_0f7a4_22 : decode cJ6_bitCount_0f7a4 22 = .ok (.iadd, 1) := by decide +kernel
theorem dJ6_bitCount_0f7a4_23 : decode cJ6_bitCount_0f7a4 23 = .ok (.istore_n 0, 1) := by decide +kernel
theorem dJ6_bitCount_0f7a4_24 : decode cJ6_bitCount_0f7a4 24 = .ok (.iload_n 0, 1) := by decide +kernel
theorem dJ6_bitCount_0f7a4_25 : decode cJ6_bitCount_0f7a4 25 = .ok (.iload_n 0, 1) := by decide +kernel
theorem dJ6_bitCount_0f7a4_26 : decode cJ6_bitCount_0f7a4 26 = .ok (.iconst 4, 1) := by decide +kernel
theorem dJ6_bitCount_0f7a4_27 : decode cJ6_bitCount_0f7a4 27 = .ok (.iushr, 1) := by decide +kernel
theorem dJ6_bitCount_0f7a4_28 : decode cJ6_bitCount_0f7a4 28 = .ok (.iadd, 1) := by decide +kernel
theorem dJ6_bitCount_0f7a4_29 : decode cJ6_bitCount_0f7a4 29 = .ok (.ldc_w 267, 3) := by decide +kernel
theorem dJ6_bitCount_0f7a4_32 : decode cJ6_bitCount_0f7a4 32 = .ok (.iand, 1) := by decide +kernel
theorem dJ6_bitCount_0f7a4_33 : decode cJ6_bitCount_0f7a4 33 = .ok (.istore_n 0, 1) := by decide +kernel
theorem dJ6_bitCount_0f7a4_34 : decode cJ6_bitCount_0f7a4 34 = .ok (.iload_n 0, 1) := by decide +kernel
theorem dJ6_bitCount_0f7a4_35 : decode cJ6_bitCount_0f7a4 35 = .ok (.iload_n 0, 1) := by decide +kernel
theorem dJ6_bitCount_0f7a4_36 : decode cJ6_bitCount_0f7a4 36 = .ok (.bipush 8, 2) := by decide +kernel
theorem dJ6_bitCount_0f7a4_38 : decode cJ6_bitCount_0f7a4 38 = .ok (.iushr, 1) := by decide +kernel
theorem dJ6_bitCount_0f7a4_39 : decode cJ6_bitCount_0f7a4 39 = .ok (.iadd, 1) := by decide +kernel
theorem dJ6_bitCount_0f7a4_40 : decode cJ6_bitCount_0f7a4 40 = .ok (.istore_n 0, 1) := by decide +kernel
theorem dJ6_bitCount_0f7a4_41 : decode cJ6_bitCount_0f7a4 41 = .ok (.iload_n 0, 1) := by decide +kernel
theorem dJ6_bitCount_0f7a4_42 : decode cJ6_bitCount_0f7a4 42 = .ok (.iload_n 0, 1) := by decide +kernel
theorem dJ6_bitCount_0f7a4_43 : decode cJ6_bitCount_0f7a4 43 = .ok (.bipush 16, 2) := by decide +kernel
theorem dJ6_bitCount_0f7a4_45 : decode cJ6_bitCount_0f7a4 45 = .ok (.iushr, 1) := by decide +kernel
theorem dJ6_bitCount_0f7a4_46 : decode cJ6_bitCount_0f7a4 46 = .ok (.iadd, 1) := by decide +kernel
theorem dJ6_bitCount_0f7a4_47 : decode cJ6_bitCount_0f7a4 47 = .ok (.istore_n 0, 1) := by decide +kernel
theorem dJ6_bitCount_0f7a4_48 : decode cJ6_bitCount_0f7a4 48 = .ok (.iload_n 0, 1) := by decide +kernel
theorem dJ6_bitCount_0f7a4_49 : decode cJ6_bitCount_0f7a4 49 = .ok (.bipush 63, 2) := by decide +kernel
theorem dJ6_bitCount_0f7a4_51 : decode cJ6_bitCount_0f7a4 51 = .ok (.iand, 1) := by decide +kernel
theorem dJ6_bitCount_0f7a4_52 : decode cJ6_bitCount_0f7a4 52 = .ok (.ireturn, 1) := by decide +kernel
theorem dJ9_floorMod_7cf53_0 : decode cJ9_floorMod_7cf53 0 = .ok (.iload_n 0, 1) := by decide +kernel
theorem dJ9_floorMod_7cf53_1 : decode cJ9_floorMod_7cf53 1 = .ok (.iload_n 1, 1) := by decide +kernel
theorem dJ9_floorMod_7cf53_2 : decode cJ9_floorMod_7cf53 2 = .ok (.irem, 1) := by decide +kernel
theorem dJ9_floorMod_7cf53_3 : decode cJ9_floorMod_7cf53 3 = .ok (.istore_n 2, 1) := by decide +kernel
theorem dJ9_floorMod_7cf53_4 : decode cJ9_floorMod_7cf53 4 = .ok (.iload_n 0, 1) := by decide +kernel
theorem dJ9_floorMod_7cf53_5 : decode cJ9_floorMod_7cf53 5 = .ok (.iload_n 1, 1) := by decide +kernel
theorem dJ9_floorMod_7cf53_6 : decode cJ9_floorMod_7cf53 6 = .ok (.ixor, 1) := by decide +kernel
theorem dJ9_floorMod_7cf53_7 : decode cJ9_floorMod_7cf53 7 = .ok (.ifCond .ge 11, 3) := by decide +kernel
theorem dJ9_floorMod_7cf53_10 : decode cJ9_floorMod_7cf53 10 = .ok (.iload_n 2, 1) := by decide +kernel
theorem dJ9_floorMod_7cf53_11 : decode cJ9_floorMod_7cf53 11 = .ok (.ifCond .eq 7, 3) := by decide +kernel
theorem dJ9_floorMod_7cf53_14 : decode cJ9_floorMod_7cf53 14 = .ok (.iload_n 2, 1) := by decide +kernel
theorem dJ9_floorMod_7cf53_15 : decode cJ9_floorMod_7cf53 15 = .ok (.iload_n 1, 1) := by decide +kernel
theorem dJ9_floorMod_7cf53_16 : decode cJ9_floorMod_7cf53 16 = .ok (.iadd, 1) := by decide +kernel
theorem dJ9_floorMod_7cf53_17 : decode cJ9_floorMod_7cf53 17 = .ok (.ireturn, 1) := by decide +kernel
theorem dJ9_floorMod_7cf53_18 : decode cJ9_floorMod_7cf53 18 = .ok (.iload_n 2, 1) := by decide +kernel
theorem dJ9_floorMod_7cf53_19 : decode cJ9_floorMod_7cf53 19 = .ok (.ireturn, 1) := by decide +kernel
theorem dJ9_abs_0f7a4_0 : decode cJ9_abs_0f7a4 0 = .ok (.iload_n 0, 1) := by decide +kernel
theorem dJ9_abs_0f7a4_1 : decode cJ9_abs_0f7a4 1 = .ok (.ifCond .ge 8, 3) := by decide +kernel
theorem dJ9_abs_0f7a4_4 : decode cJ9_abs_0f7a4 4 = .ok (.iload_n 0, 1) := by decide +kernel
theorem dJ9_abs_0f7a4_5 : decode cJ9_abs_0f7a4 5 = .ok (.ineg, 1) := by decide +kernel
theorem dJ9_abs_0f7a4_6 : decode cJ9_abs_0f7a4 6 = .ok (.goto 4, 3) := by decide +kernel
theorem dJ9_abs_0f7a4_9 : decode cJ9_abs_0f7a4 9 = .ok (.iload_n 0, 1) := by decide +kernel
theorem dJ9_abs_0f7a4_10 : decode cJ9_abs_0f7a4 10 = .ok (.ireturn, 1) := by decide +kernel
theorem dJ9_max_7cf53_0 : decode cJ9_max_7cf53 0 = .ok (.iload_n 0, 1) := by decide +kernel
theorem dJ9_max_7cf53_1 : decode cJ9_max_7cf53 1 = .ok (.iload_n 1, 1) := by decide +kernel
theorem dJ9_max_7cf53_2 : decode cJ9_max_7cf53 2 = .ok (.if_icmp .lt 7, 3) := by decide +kernel
theorem dJ9_max_7cf53_5 : decode cJ9_max_7cf53 5 = .ok (.iload_n 0, 1) := by decide +kernel
theorem dJ9_max_7cf53_6 : decode cJ9_max_7cf53 6 = .ok (.goto 4, 3) := by decide +kernel
theorem dJ9_max_7cf53_9 : decode cJ9_max_7cf53 9 = .ok (.iload_n 1, 1) := by decide +kernel
theorem dJ9_max_7cf53_10 : decode cJ9_max_7cf53 10 = .ok (.ireturn, 1) := by decide +kernel
theorem dJ9_min_7cf53_0 : decode cJ9_min_7cf53 0 = .ok (.iload_n 0, 1) := by decide +kernel
theorem dJ9_min_7cf53_1 : decode cJ9_min_7cf53 1 = .ok (.iload_n 1, 1) := by decide +kernel
theorem dJ9_min_7cf53_2 : decode cJ9_min_7cf53 2 = .ok (.if_icmp .gt 7, 3) := by decide +kernel
theorem dJ9_min_7cf53_5 : decode cJ9_min_7cf53 5 = .ok (.iload_n 0, 1) := by decide +kernel
theorem dJ9_min_7cf53_6 : decode cJ9_min_7cf53 6 = .ok (.goto 4, 3) := by decide +kernel
theorem dJ9_min_7cf53_9 : decode cJ9_min_7cf53 9 = .ok (.iload_n 1, 1) := by decide +kernel
theorem dJ9_min_7cf53_10 : decode cJ9_min_7cf53 10 = .ok (.ireturn, 1) := by decide +kernel
theorem dJ0_init_81219_0 : decode cJ0_init_81219 0 = .ok (.aload_n 0, 1) := by decide +kernel
theorem dJ0_init_81219_1 : decode cJ0_init_81219 1 = .ok (.aload_n 1, 1) := by decide +kernel
theorem dJ0_init_81219_2 : decode cJ0_init_81219 2 = .ok (.aconst_null, 1) := by decide +kernel
theorem dJ0_init_81219_3 : decode cJ0_init_81219 3 = .ok (.invokespecial 489, 3) := by decide +kernel
theorem dJ0_init_81219_6 : decode cJ0_init_81219 6 = .ok (.return_, 1) := by decide +kernel
theorem dJ0_length_8abf5_0 : decode cJ0_length_8abf5 0 = .ok (.aload_n 0, 1) := by decide +kernel
theorem dJ0_length_8abf5_1 : decode cJ0_length_8abf5 1 = .ok (.getfield 9, 3) := by decide +kernel
theorem dJ0_length_8abf5_4 : decode cJ0_length_8abf5 4 = .ok (.arraylength, 1) := by decide +kernel
theorem dJ0_length_8abf5_5 : decode cJ0_length_8abf5 5 = .ok (.aload_n 0, 1) := by decide +kernel
theorem dJ0_length_8abf5_6 : decode cJ0_length_8abf5 6 = .ok (.invokevirtual 335, 3) := by decide +kernel
theorem dJ0_length_8abf5_9 : decode cJ0_length_8abf5 9 = .ok (.ishr, 1) := by decide +kernel
theorem dJ0_length_8abf5_10 : decode cJ0_length_8abf5 10 = .ok (.ireturn, 1) := by decide +kernel
theorem dJ0_charAt_5068e_0 : decode cJ0_charAt_5068e 0 = .ok (.aload_n 0, 1) := by decide +kernel
theorem dJ0_charAt_5068e_1 : decode cJ0_charAt_5068e 1 = .ok (.invokevirtual 492, 3) := by decide +kernel
theorem dJ0_charAt_5068e_4 : decode cJ0_charAt_5068e 4 = .ok (.ifCond .eq 12, 3) := by decide +kernel
theorem dJ0_charAt_5068e_7 : decode cJ0_charAt_5068e 7 = .ok (.aload_n 0, 1) := by decide +kernel
theorem dJ0_charAt_5068e_8 : decode cJ0_charAt_5068e 8 = .ok (.getfield 9, 3) := by decide +kernel
theorem dJ0_charAt_5068e_11 : decode cJ0_charAt_5068e 11 = .ok (.iload_n 1, 1) := by decide +kernel
theorem dJ0_charAt_5068e_12 : decode cJ0_charAt_5068e 12 = .ok (.invokestatic 495, 3) := by decide +kernel
theorem dJ0_charAt_5068e_15 : decode cJ0_charAt_5068e 15 = .ok (.ireturn, 1) := by decide +kernel
theorem dJ0_charAt_5068e_16 : decode cJ0_charAt_5068e 16 = .ok (.aload_n 0, 1) := by decide +kernel
theorem dJ0_charAt_5068e_17 : decode cJ0_charAt_5068e 17 = .ok (.getfield 9, 3) := by decide +kernel
theorem dJ0_charAt_5068e_20 : decode cJ0_charAt_5068e 20 = .ok (.iload_n 1, 1) := by decide +kernel
theorem dJ0_charAt_5068e_21 : decode cJ0_charAt_5068e 21 = .ok (.invokestatic 498, 3) := by decide +kernel
theorem dJ0_charAt_5068e_24 : decode cJ0_charAt_5068e 24 = .ok (.ireturn, 1) := by decide +kernel
theorem dJ0_getBytes_840e7_0 : decode cJ0_getBytes_840e7 0 = .ok (.aload_n 0, 1) := by decide +kernel
theorem dJ0_getBytes_840e7_1 : decode cJ0_getBytes_840e7 1 = .ok (.invokevirtual 335, 3) := by decide +kernel
theorem dJ0_getBytes_840e7_4 : decode cJ0_getBytes_840e7 4 = .ok (.iload_n 3, 1) := by decide +kernel
theorem dJ0_getBytes_840e7_5 : decode cJ0_getBytes_840e7 5 = .ok (.if_icmp .ne 23, 3) := by decide +kernel
theorem dJ0_getBytes_840e7_8 : decode cJ0_getBytes_840e7 8 = .ok (.aload_n 0, 1) := by decide +kernel
theorem dJ0_getBytes_840e7_9 : decode cJ0_getBytes_840e7 9 = .ok (.getfield 9, 3) := by decide +kernel
theorem dJ0_getBytes_840e7_12 : decode cJ0_getBytes_840e7 12 = .ok (.iconst 0, 1) := by decide +kernel
theorem dJ0_getBytes_840e7_13 : decode cJ0_getBytes_840e7 13 = .ok (.aload_n 1, 1) := by decide +kernel
theorem dJ0_getBytes_840e7_14 : decode cJ0_getBytes_840e7 14 = .ok (.iload_n 2, 1) := by decide +kernel
theorem dJ0_getBytes_840e7_15 : decode cJ0_getBytes_840e7 15 = .ok (.iload_n 3, 1) := by decide +kernel
theorem dJ0_getBytes_840e7_16 : decode cJ0_getBytes_840e7 16 = .ok (.ishl, 1) := by decide +kernel
theorem dJ0_getBytes_840e7_17 : decode cJ0_getBytes_840e7 17 = .ok (.aload_n 0, 1) := by decide +kernel
theorem dJ0_getBytes_840e7_18 : decode cJ0_getBytes_840e7 18 = .ok (.getfield 9, 3) := by decide +kernel
theorem dJ0_getBytes_840e7_21 : decode cJ0_getBytes_840e7 21 = .ok (.arraylength, 1) := by decide +kernel
theorem dJ0_getBytes_840e7_22 : decode cJ0_getBytes_840e7 22 = .ok (.invokestatic 212, 3) := by decide +kernel
theorem dJ0_getBytes_840e7_25 : decode cJ0_getBytes_840e7 25 = .ok (.goto 18, 3) := by decide +kernel
theorem dJ0_getBytes_840e7_28 : decode cJ0_getBytes_840e7 28 = .ok (.aload_n 0, 1) := by decide +kernel
theorem dJ0_getBytes_840e7_29 : decode cJ0_getBytes_840e7 29 = .ok (.getfield 9, 3) := by decide +kernel
theorem dJ0_getBytes_840e7_32 : decode cJ0_getBytes_840e7 32 = .ok (.iconst 0, 1) := by decide +kernel
theorem dJ0_getBytes_840e7_33 : decode cJ0_getBytes_840e7 33 = .ok (.aload_n 1, 1) := by decide +kernel
theorem dJ0_getBytes_840e7_34 : decode cJ0_getBytes_840e7 34 = .ok (.iload_n 2, 1) := by decide +kernel
theorem dJ0_getBytes_840e7_35 : decode cJ0_getBytes_840e7 35 = .ok (.aload_n 0, 1) := by decide +kernel
theorem dJ0_getBytes_840e7_36 : decode cJ0_getBytes_840e7 36 = .ok (.getfield 9, 3) := by decide +kernel
theorem dJ0_getBytes_840e7_39 : decode cJ0_getBytes_840e7 39 = .ok (.arraylength, 1) := by decide +kernel
theorem dJ0_getBytes_840e7_40 : decode cJ0_getBytes_840e7 40 = .ok (.invokestatic 106, 3) := by decide +kernel
theorem dJ0_getBytes_840e7_43 : decode cJ0_getBytes_840e7 43 = .ok (.return_, 1) := by decide +kernel
theorem dJ0_init_db425_0 : decode cJ0_init_db425 0 = .ok (.aload_n 0, 1) := by decide +kernel
theorem dJ0_init_db425_1 : decode cJ0_init_db425 1 = .ok (.invokespecial 1, 3) := by decide +kernel
theorem dJ0_init_db425_4 : decode cJ0_init_db425 4 = .ok (.aload_n 1, 1) := by decide +kernel
theorem dJ0_init_db425_5 : decode cJ0_init_db425 5 = .ok (.invokevirtual 552, 3) := by decide +kernel
theorem dJ0_init_db425_8 : decode cJ0_init_db425 8 = .ok (.astore_n 3, 1) := by decide +kernel
theorem dJ0_init_db425_9 : decode cJ0_init_db425 9 = .ok (.aload_n 1, 1) := by decide +kernel
theorem dJ0_init_db425_10 : decode cJ0_init_db425 10 = .ok (.invokevirtual 549, 3) := by decide +kernel
theorem dJ0_init_db425_13 : decode cJ0_init_db425 13 = .ok (.istore 4, 2) := by decide +kernel
theorem dJ0_init_db425_15 : decode cJ0_init_db425 15 = .ok (.aload_n 1, 1) := by decide +kernel
theorem dJ0_init_db425_16 : decode cJ0_init_db425 16 = .ok (.invokevirtual 1047, 3) := by decide +kernel
theorem dJ0_init_db425_19 : decode cJ0_init_db425 19 = .ok (.ifCond .eq 22, 3) := by decide +kernel
theorem dJ0_init_db425_22 : decode cJ0_init_db425 22 = .ok (.aload_n 0, 1) := by decide +kernel
theorem dJ0_init_db425_23 : decode cJ0_init_db425 23 = .ok (.iconst 0, 1) := by decide +kernel
theorem dJ0_init_db425_24 : decode cJ0_init_db425 24 = .ok (.putfield 15, 3) := by decide +kernel
theorem dJ0_init_db425_27 : decode cJ0_init_db425 27 = .ok (.aload_n 0, 1) := by decide +kernel
theorem dJ0_init_db425_28 : decode cJ0_init_db425 28 = .ok (.aload_n 3, 1) := by decide +kernel
theorem dJ0_init_db425_29 : decode cJ0_init_db425 29 = .ok (.iconst 0, 1) := by decide +kernel
theorem dJ0_init_db425_30 : decode cJ0_init_db425 30 = .ok (.iload 4, 2) := by decide +kernel
theorem dJ0_init_db425_32 : decode cJ0_init_db425 32 = .ok (.invokestatic 54, 3) := by decide +kernel
theorem dJ0_init_db425_35 : decode cJ0_init_db425 35 = .ok (.putfield 9, 3) := by decide +kernel
theorem dJ0_init_db425_38 : decode cJ0_init_db425 38 = .ok (.goto 59, 3) := by decide +kernel
theorem dJ0_init_db425_41 : decode cJ0_init_db425 41 = .ok (.getstatic 38, 3) := by decide +kernel
theorem dJ0_init_db425_44 : decode cJ0_init_db425 44 = .ok (.ifCond .eq 35, 3) := by decide +kernel
theorem dJ0_init_db425_47 : decode cJ0_init_db425 47 = .ok (.aload_n 1, 1) := by decide +kernel
theorem dJ0_init_db425_48 : decode cJ0_init_db425 48 = .ok (.getfield 1048, 3) := by decide +kernel
theorem dJ0_init_db425_51 : decode cJ0_init_db425 51 = .ok (.ifCond .eq 28, 3) := by decide +kernel
theorem dJ0_init_db425_54 : decode cJ0_init_db425 54 = .ok (.aload_n 0, 1) := by decide +kernel
theorem dJ0_init_db425_55 : decode cJ0_init_db425 55 = .ok (.aload_n 3, 1) := by decide +kernel
theorem dJ0_init_db425_56 : decode cJ0_init_db425 56 = .ok (.iconst 0, 1) := by decide +kernel
theorem dJ0_init_db425_57 : decode cJ0_init_db425 57 = .ok (.iload 4, 2) := by decide +kernel
theorem dJ0_init_db425_59 : decode cJ0_init_db425 59 = .ok (.invokestatic 1051, 3) := by decide +kernel
theorem dJ0_init_db425_62 : decode cJ0_init_db425 62 = .ok (.putfield 9, 3) := by decide +kernel
theorem dJ0_init_db425_65 : decode cJ0_init_db425 65 = .ok (.aload_n 0, 1) := by decide +kernel
theorem dJ0_init_db425_66 : decode cJ0_init_db425 66 = .ok (.aload_n 0, 1) := by decide +kernel
theorem dJ0_init_db425_67 : decode cJ0_init_db425 67 = .ok (.getfield 9, 3) := by decide +kernel
theorem dJ0_init_db425_70 : decode cJ0_init_db425 70 = .ok (.iload 4, 2) := by decide +kernel
theorem dJ0_init_db425_72 : decode cJ0_init_db425 72 = .ok (.invokestatic 47, 3) := by decide +kernel
theorem dJ0_init_db425_75 : decode cJ0_init_db425 75 = .ok (.putfield 15, 3) := by decide +kernel
theorem dJ0_init_db425_78 : decode cJ0_init_db425 78 = .ok (.return_, 1) := by decide +kernel
theorem dJ0_init_db425_79 : decode cJ0_init_db425 79 = .ok (.aload_n 0, 1) := by decide +kernel
theorem dJ0_init_db425_80 : decode cJ0_init_db425 80 = .ok (.iconst 1, 1) := by decide +kernel
theorem dJ0_init_db425_81 : decode cJ0_init_db425 81 = .ok (.putfield 15, 3) := by decide +kernel
theorem dJ0_init_db425_84 : decode cJ0_init_db425 84 = .ok (.aload_n 0, 1) := by decide +kernel
theorem dJ0_init_db425_85 : decode cJ0_init_db425 85 = .ok (.aload_n 3, 1) := by decide +kernel
theorem dJ0_init_db425_86 : decode cJ0_init_db425 86 = .ok (.iconst 0, 1) := by decide +kernel
theorem dJ0_init_db425_87 : decode cJ0_init_db425 87 = .ok (.iload 4, 2) := by decide +kernel
theorem dJ0_init_db425_89 : decode cJ0_init_db425 89 = .ok (.iconst 1, 1) := by decide +kernel
theorem dJ0_init_db425_90 : decode cJ0_init_db425 90 = .ok (.ishl, 1) := by decide +kernel
theorem dJ0_init_db425_91 : decode cJ0_init_db425 91 = .ok (.invokestatic 54, 3) := by decide +kernel
theorem dJ0_init_db425_94 : decode cJ0_init_db425 94 = .ok (.putfield 9, 3) := by decide +kernel
theorem dJ0_init_db425_97 : decode cJ0_init_db425 97 = .ok (.return_, 1) := by decide +kernel
theorem dJ0_coder_7d493_0 : decode cJ0_coder_7d493 0 = .ok (.getstatic 38, 3) := by decide +kernel
theorem dJ0_coder_7d493_3 : decode cJ0_coder_7d493 3 = .ok (.ifCond .eq 10, 3) := by decide +kernel
theorem dJ0_coder_7d493_6 : decode cJ0_coder_7d493 6 = .ok (.aload_n 0, 1) := by decide +kernel
theorem dJ0_coder_7d493_7 : decode cJ0_coder_7d493 7 = .ok (.getfield 15, 3) := by decide +kernel
theorem dJ0_coder_7d493_10 : decode cJ0_coder_7d493 10 = .ok (.goto 4, 3) := by decide +kernel
theorem dJ0_coder_7d493_13 : decode cJ0_coder_7d493 13 = .ok (.iconst 1, 1) := by decide +kernel
theorem dJ0_coder_7d493_14 : decode cJ0_coder_7d493 14 = .ok (.ireturn, 1) := by decide +kernel
theorem dJ0_isLatin1_aae02_0 : decode cJ0_isLatin1_aae02 0 = .ok (.getstatic 38, 3) := by decide +kernel
theorem dJ0_isLatin1_aae02_3 : decode cJ0_isLatin1_aae02 3 = .ok (.ifCond .eq 14, 3) := by decide +kernel
theorem dJ0_isLatin1_aae02_6 : decode cJ0_isLatin1_aae02 6 = .ok (.aload_n 0, 1) := by decide +kernel
theorem dJ0_isLatin1_aae02_7 : decode cJ0_isLatin1_aae02 7 = .ok (.getfield 15, 3) := by decide +kernel
theorem dJ0_isLatin1_aae02_10 : decode cJ0_isLatin1_aae02 10 = .ok (.ifCond .ne 7, 3) := by decide +kernel
theorem dJ0_isLatin1_aae02_13 : decode cJ0_isLatin1_aae02 13 = .ok (.iconst 1, 1) := by decide +kernel
theorem dJ0_isLatin1_aae02_14 : decode cJ0_isLatin1_aae02 14 = .ok (.goto 4, 3) := by decide +kernel
theorem dJ0_isLatin1_aae02_17 : decode cJ0_isLatin1_aae02 17 = .ok (.iconst 0, 1) := by decide +kernel
theorem dJ0_isLatin1_aae02_18 : decode cJ0_isLatin1_aae02 18 = .ok (.ireturn, 1) := by decide +kernel
theorem dJ0_checkIndex_df160_0 : decode cJ0_checkIndex_df160 0 = .ok (.iload_n 0, 1) := by decide +kernel
theorem dJ0_checkIndex_df160_1 : decode cJ0_checkIndex_df160 1 = .ok (.iload_n 1, 1) := by decide +kernel
theorem dJ0_checkIndex_df160_2 : decode cJ0_checkIndex_df160 2 = .ok (.getstatic 1053, 3) := by decide +kernel
theorem dJ0_checkIndex_df160_5 : decode cJ0_checkIndex_df160 5 = .ok (.invokestatic 1059, 3) := by decide +kernel
theorem dJ0_checkIndex_df160_8 : decode cJ0_checkIndex_df160 8 = .ok (.pop, 1) := by decide +kernel
theorem dJ0_checkIndex_df160_9 : decode cJ0_checkIndex_df160 9 = .ok (.return_, 1) := by decide +kernel
theorem dJ0_checkBoundsOffCount_cabcc_0 : decode cJ0_checkBoundsOffCount_cabcc 0 = .ok (.iload_n 0, 1) := by decide +kernel
theorem dJ0_checkBoundsOffCount_cabcc_1 : decode cJ0_checkBoundsOffCount_cabcc 1 = .ok (.iload_n 1, 1) := by decide +kernel
theorem dJ0_checkBoundsOffCount_cabcc_2 : decode cJ0_checkBoundsOffCount_cabcc 2 = .ok (.iload_n 2, 1) := by decide +kernel
theorem dJ0_checkBoundsOffCount_cabcc_3 : decode cJ0_checkBoundsOffCount_cabcc 3 = .ok (.getstatic 1053, 3) := by decide +kernel
theorem dJ0_checkBoundsOffCount_cabcc_6 : decode cJ0_checkBoundsOffCount_cabcc 6 = .ok (.invokestatic 1065, 3) := by decide +kernel
theorem dJ0_checkBoundsOffCount_cabcc_9 : decode cJ0_checkBoundsOffCount_cabcc 9 = .ok (.ireturn, 1) := by decide +kernel
theorem dJ0_checkBoundsBeginEnd_23922_0 : decode cJ0_checkBoundsBeginEnd_23922 0 = .ok (.iload_n 0, 1) := by decide +kernel
theorem dJ0_checkBoundsBeginEnd_23922_1 : decode cJ0_checkBoundsBeginEnd_23922 1 = .ok (.iload_n 1, 1) := by decide +kernel
theorem dJ0_checkBoundsBeginEnd_23922_2 : decode cJ0_checkBoundsBeginEnd_23922 2 = .ok (.iload_n 2, 1) := by decide +kernel
theorem dJ0_checkBoundsBeginEnd_23922_3 : decode cJ0_checkBoundsBeginEnd_23922 3 = .ok (.getstatic 1053, 3) := by decide +kernel
theorem dJ0_checkBoundsBeginEnd_23922_6 : decode cJ0_checkBoundsBeginEnd_23922 6 = .ok (.invokestatic 1062, 3) := by decide +kernel
theorem dJ0_checkBoundsBeginEnd_23922_9 : decode cJ0_checkBoundsBeginEnd_23922 9 = .ok (.pop, 1) := by decide +kernel
theorem dJ0_checkBoundsBeginEnd_23922_10 : decode cJ0_checkBoundsBeginEnd_23922 10 = .ok (.return_, 1) := by decide +kernel
theorem dJ1_charAt_3b067_0 : decode cJ1_charAt_3b067 0 = .ok (.iload_n 1, 1) := by decide +kernel
theorem dJ1_charAt_3b067_1 : decode cJ1_charAt_3b067 1 = .ok (.aload_n 0, 1) := by decide +kernel
theorem dJ1_charAt_3b067_2 : decode cJ1_charAt_3b067 2 = .ok (.arraylength, 1) := by decide +kernel
theorem dJ1_charAt_3b067_3 : decode cJ1_charAt_3b067 3 = .ok (.invokestatic 9, 3) := by decide +kernel
theorem dJ1_charAt_3b067_6 : decode cJ1_charAt_3b067 6 = .ok (.aload_n 0, 1) := by decide +kernel
theorem dJ1_charAt_3b067_7 : decode cJ1_charAt_3b067 7 = .ok (.iload_n 1, 1) := by decide +kernel
theorem dJ1_charAt_3b067_8 : decode cJ1_charAt_3b067 8 = .ok (.baload, 1) := by decide +kernel
theorem dJ1_charAt_3b067_9 : decode cJ1_charAt_3b067 9 = .ok (.sipush 255, 3) := by decide +kernel
theorem dJ1_charAt_3b067_12 : decode cJ1_charAt_3b067 12 = .ok (.iand, 1) := by decide +kernel
theorem dJ1_charAt_3b067_13 : decode cJ1_charAt_3b067 13 = .ok (.i2c, 1) := by decide +kernel
theorem dJ1_charAt_3b067_14 : decode cJ1_charAt_3b067 14 = .ok (.ireturn, 1) := by decide +kernel
theorem dJ1_canEncode_fc78d_0 : decode cJ1_canEncode_fc78d 0 = .ok (.iload_n 0, 1) := by decide +kernel
theorem dJ1_canEncode_fc78d_1 : decode cJ1_canEncode_fc78d 1 = .ok (.sipush 255, 3) := by decide +kernel
theorem dJ1_canEncode_fc78d_4 : decode cJ1_canEncode_fc78d 4 = .ok (.if_icmp .gt 7, 3) := by decide +kernel
theorem dJ1_canEncode_fc78d_7 : decode cJ1_canEncode_fc78d 7 = .ok (.iconst 1, 1) := by decide +kernel
theorem dJ1_canEncode_fc78d_8 : decode cJ1_canEncode_fc78d 8 = .ok (.goto 4, 3) := by decide +kernel
theorem dJ1_canEncode_fc78d_11 : decode cJ1_canEncode_fc78d 11 = .ok (.iconst 0, 1) := by decide +kernel
theorem dJ1_canEncode_fc78d_12 : decode cJ1_canEncode_fc78d 12 = .ok (.ireturn, 1) := by decide +kernel
theorem dJ1_inflate_0e8fd_0 : decode cJ1_inflate_0e8fd 0 = .ok (.aload_n 0, 1) := by decide +kernel
theorem dJ1_inflate_0e8fd_1 : decode cJ1_inflate_0e8fd 1 = .ok (.iload_n 1, 1) := by decide +kernel
theorem dJ1_inflate_0e8fd_2 : decode cJ1_inflate_0e8fd 2 = .ok (.aload_n 2, 1) := by decide +kernel
theorem dJ1_inflate_0e8fd_3 : decode cJ1_inflate_0e8fd 3 = .ok (.iload_n 3, 1) := by decide +kernel
theorem dJ1_inflate_0e8fd_4 : decode cJ1_inflate_0e8fd 4 = .ok (.iload 4, 2) := by decide +kernel
theorem dJ1_inflate_0e8fd_6 : decode cJ1_inflate_0e8fd 6 = .ok (.invokestatic 240, 3) := by decide +kernel
theorem dJ1_inflate_0e8fd_9 : decode cJ1_inflate_0e8fd 9 = .ok (.return_, 1) := by decide +kernel
theorem dJ3_checkIndex_8e157_0 : decode cJ3_checkIndex_8e157 0 = .ok (.iload_n 0, 1) := by decide +kernel
theorem dJ3_checkIndex_8e157_1 : decode cJ3_checkIndex_8e157 1 = .ok (.ifCond .lt 8, 3) := by decide +kernel
theorem dJ3_checkIndex_8e157_4 : decode cJ3_checkIndex_8e157 4 = .ok (.iload_n 0, 1) := by decide +kernel
theorem dJ3_checkIndex_8e157_5 : decode cJ3_checkIndex_8e157 5 = .ok (.iload_n 1, 1) := by decide +kernel
theorem dJ3_checkIndex_8e157_6 : decode cJ3_checkIndex_8e157 6 = .ok (.if_icmp .lt 10, 3) := by decide +kernel
theorem dJ3_checkIndex_8e157_9 : decode cJ3_checkIndex_8e157 9 = .ok (.aload_n 2, 1) := by decide +kernel
theorem dJ3_checkIndex_8e157_10 : decode cJ3_checkIndex_8e157 10 = .ok (.iload_n 0, 1) := by decide +kernel
theorem dJ3_checkIndex_8e157_11 : decode cJ3_checkIndex_8e157 11 = .ok (.iload_n 1, 1) := by decide +kernel
theorem dJ3_checkIndex_8e157_12 : decode cJ3_checkIndex_8e157 12 = .ok (.invokestatic 95, 3) := by decide +kernel
theorem dJ3_checkIndex_8e157_15 : decode cJ3_checkIndex_8e157 15 = .ok (.athrow, 1) := by decide +kernel
theorem dJ3_checkIndex_8e157_16 : decode cJ3_checkIndex_8e157 16 = .ok (.iload_n 0, 1) := by decide +kernel
theorem dJ3_checkIndex_8e157_17 : decode cJ3_checkIndex_8e157 17 = .ok (.ireturn, 1) := by decide +kernel
theorem dJ3_checkFromToIndex_8c36e_0 : decode cJ3_checkFromToIndex_8c36e 0 = .ok (.iload_n 0, 1) := by decide +kernel
theorem dJ3_checkFromToIndex_8c36e_1 : decode cJ3_checkFromToIndex_8c36e 1 = .ok (.ifCond .lt 13, 3) := by decide +kernel
theorem dJ3_checkFromToIndex_8c36e_4 : decode cJ3_checkFromToIndex_8c36e 4 = .ok (.iload_n 0, 1) := by decide +kernel
theorem dJ3_checkFromToIndex_8c36e_5 : decode cJ3_checkFromToIndex_8c36e 5 = .ok (.iload_n 1, 1) := by decide +kernel
theorem dJ3_checkFromToIndex_8c36e_6 : decode cJ3_checkFromToIndex_8c36e 6 = .ok (.if_icmp .gt 8, 3) := by decide +kernel
theorem dJ3_checkFromToIndex_8c36e_9 : decode cJ3_checkFromToIndex_8c36e 9 = .ok (.iload_n 1, 1) := by decide +kernel
theorem dJ3_checkFromToIndex_8c36e_10 : decode cJ3_checkFromToIndex_8c36e 10 = .ok (.iload_n 2, 1) := by decide +kernel
theorem dJ3_checkFromToIndex_8c36e_11 : decode cJ3_checkFromToIndex_8c36e 11 = .ok (.if_icmp .le 11, 3) := by decide +kernel
theorem dJ3_checkFromToIndex_8c36e_14 : decode cJ3_checkFromToIndex_8c36e 14 = .ok (.aload_n 3, 1) := by decide +kernel
theorem dJ3_checkFromToIndex_8c36e_15 : decode cJ3_checkFromToIndex_8c36e 15 = .ok (.iload_n 0, 1) := by decide +kernel
theorem dJ3_checkFromToIndex_8c36e_16 : decode cJ3_checkFromToIndex_8c36e 16 = .ok (.iload_n 1, 1) := by decide +kernel
theorem dJ3_checkFromToIndex_8c36e_17 : decode cJ3_checkFromToIndex_8c36e 17 = .ok (.iload_n 2, 1) := by decide +kernel
theorem dJ3_checkFromToIndex_8c36e_18 : decode cJ3_checkFromToIndex_8c36e 18 = .ok (.invokestatic 99, 3) := by decide +kernel
theorem dJ3_checkFromToIndex_8c36e_21 : decode cJ3_checkFromToIndex_8c36e 21 = .ok (.athrow, 1) := by decide +kernel
theorem dJ3_checkFromToIndex_8c36e_22 : decode cJ3_checkFromToIndex_8c36e 22 = .ok (.iload_n 0, 1) := by decide +kernel
theorem dJ3_checkFromToIndex_8c36e_23 : decode cJ3_checkFromToIndex_8c36e 23 = .ok (.ireturn, 1) := by decide +kernel
theorem dJ3_checkFromIndexSize_8c36e_0 : decode cJ3_checkFromIndexSize_8c36e 0 = .ok (.iload_n 2, 1) := by decide +kernel
theorem dJ3_checkFromIndexSize_8c36e_1 : decode cJ3_checkFromIndexSize_8c36e 1 = .ok (.iload_n 0, 1) := by decide +kernel
theorem dJ3_checkFromIndexSize_8c36e_2 : decode cJ3_checkFromIndexSize_8c36e 2 = .ok (.ior, 1) := by decide +kernel
theorem dJ3_checkFromIndexSize_8c36e_3 : decode cJ3_checkFromIndexSize_8c36e 3 = .ok (.iload_n 1, 1) := by decide +kernel
theorem dJ3_checkFromIndexSize_8c36e_4 : decode cJ3_checkFromIndexSize_8c36e 4 = .ok (.ior, 1) := by decide +kernel
theorem dJ3_checkFromIndexSize_8c36e_5 : decode cJ3_checkFromIndexSize_8c36e 5 = .ok (.ifCond .lt 10, 3) := by decide +kernel
theorem dJ3_checkFromIndexSize_8c36e_8 : decode cJ3_checkFromIndexSize_8c36e 8 = .ok (.iload_n 1, 1) := by decide +kernel
theorem dJ3_checkFromIndexSize_8c36e_9 : decode cJ3_checkFromIndexSize_8c36e 9 = .ok (.iload_n 2, 1) := by decide +kernel
theorem dJ3_checkFromIndexSize_8c36e_10 : decode cJ3_checkFromIndexSize_8c36e 10 = .ok (.iload_n 0, 1) := by decide +kernel
theorem dJ3_checkFromIndexSize_8c36e_11 : decode cJ3_checkFromIndexSize_8c36e 11 = .ok (.isub, 1) := by decide +kernel
theorem dJ3_checkFromIndexSize_8c36e_12 : decode cJ3_checkFromIndexSize_8c36e 12 = .ok (.if_icmp .le 11, 3) := by decide +kernel
theorem dJ3_checkFromIndexSize_8c36e_15 : decode cJ3_checkFromIndexSize_8c36e 15 = .ok (.aload_n 3, 1) := by decide +kernel
theorem dJ3_checkFromIndexSize_8c36e_16 : decode cJ3_checkFromIndexSize_8c36e 16 = .ok (.iload_n 0, 1) := by decide +kernel
theorem dJ3_checkFromIndexSize_8c36e_17 : decode cJ3_checkFromIndexSize_8c36e 17 = .ok (.iload_n 1, 1) := by decide +kernel
theorem dJ3_checkFromIndexSize_8c36e_18 : decode cJ3_checkFromIndexSize_8c36e 18 = .ok (.iload_n 2, 1) := by decide +kernel
theorem dJ3_checkFromIndexSize_8c36e_19 : decode cJ3_checkFromIndexSize_8c36e 19 = .ok (.invokestatic 103, 3) := by decide +kernel
theorem dJ3_checkFromIndexSize_8c36e_22 : decode cJ3_checkFromIndexSize_8c36e 22 = .ok (.athrow, 1) := by decide +kernel
theorem dJ3_checkFromIndexSize_8c36e_23 : decode cJ3_checkFromIndexSize_8c36e 23 = .ok (.iload_n 0, 1) := by decide +kernel
theorem dJ3_checkFromIndexSize_8c36e_24 : decode cJ3_checkFromIndexSize_8c36e 24 = .ok (.ireturn, 1) := by decide +kernel
