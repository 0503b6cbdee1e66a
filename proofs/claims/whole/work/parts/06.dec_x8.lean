theorem dX8_init_0 : decode cX8_init 0 = .ok (.aload_n 0, 1) := by decide +kernel
theorem dX8_init_1 : decode cX8_init 1 = .ok (.invokespecial 1, 3) := by decide +kernel
theorem dX8_init_4 : decode cX8_init 4 = .ok (.aload_n 0, 1) := by decide +kernel
theorem dX8_init_5 : decode cX8_init 5 = .ok (.sipush 1000, 3) := by decide +kernel
theorem dX8_init_8 : decode cX8_init 8 = .ok (.newarray .int, 2) := by decide +kernel
theorem dX8_init_10 : decode cX8_init 10 = .ok (.putfield 7, 3) := by decide +kernel
theorem dX8_init_13 : decode cX8_init 13 = .ok (.aload_n 0, 1) := by decide +kernel
theorem dX8_init_14 : decode cX8_init 14 = .ok (.bipush 65, 2) := by decide +kernel
theorem dX8_init_16 : decode cX8_init 16 = .ok (.newarray .int, 2) := by decide +kernel
theorem dX8_init_18 : decode cX8_init 18 = .ok (.putfield 13, 3) := by decide +kernel
theorem dX8_init_21 : decode cX8_init 21 = .ok (.aload_n 0, 1) := by decide +kernel
theorem dX8_init_22 : decode cX8_init 22 = .ok (.bipush 65, 2) := by decide +kernel
theorem dX8_init_24 : decode cX8_init 24 = .ok (.newarray .int, 2) := by decide +kernel
theorem dX8_init_26 : decode cX8_init 26 = .ok (.putfield 16, 3) := by decide +kernel
theorem dX8_init_29 : decode cX8_init 29 = .ok (.aload_n 0, 1) := by decide +kernel
theorem dX8_init_30 : decode cX8_init 30 = .ok (.sipush 597, 3) := by decide +kernel
theorem dX8_init_33 : decode cX8_init 33 = .ok (.newarray .int, 2) := by decide +kernel
theorem dX8_init_35 : decode cX8_init 35 = .ok (.putfield 19, 3) := by decide +kernel
theorem dX8_init_38 : decode cX8_init 38 = .ok (.aload_n 0, 1) := by decide +kernel
theorem dX8_init_39 : decode cX8_init 39 = .ok (.sipush 597, 3) := by decide +kernel
theorem dX8_init_42 : decode cX8_init 42 = .ok (.newarray .int, 2) := by decide +kernel
theorem dX8_init_44 : decode cX8_init 44 = .ok (.putfield 22, 3) := by decide +kernel
theorem dX8_init_47 : decode cX8_init 47 = .ok (.aload_n 0, 1) := by decide +kernel
theorem dX8_init_48 : decode cX8_init 48 = .ok (.sipush 5970, 3) := by decide +kernel
theorem dX8_init_51 : decode cX8_init 51 = .ok (.newarray .int, 2) := by decide +kernel
theorem dX8_init_53 : decode cX8_init 53 = .ok (.putfield 25, 3) := by decide +kernel
theorem dX8_init_56 : decode cX8_init 56 = .ok (.aload_n 0, 1) := by decide +kernel
theorem dX8_init_57 : decode cX8_init 57 = .ok (.iconst (-1), 1) := by decide +kernel
theorem dX8_init_58 : decode cX8_init 58 = .ok (.putfield 28, 3) := by decide +kernel
theorem dX8_init_61 : decode cX8_init 61 = .ok (.aload_n 0, 1) := by decide +kernel
theorem dX8_init_62 : decode cX8_init 62 = .ok (.bipush 16, 2) := by decide +kernel
theorem dX8_init_64 : decode cX8_init 64 = .ok (.newarray .int, 2) := by decide +kernel
theorem dX8_init_66 : decode cX8_init 66 = .ok (.putfield 32, 3) := by decide +kernel
theorem dX8_init_69 : decode cX8_init 69 = .ok (.aload_n 0, 1) := by decide +kernel
theorem dX8_init_70 : decode cX8_init 70 = .ok (.bipush 16, 2) := by decide +kernel
theorem dX8_init_72 : decode cX8_init 72 = .ok (.newarray .int, 2) := by decide +kernel
theorem dX8_init_74 : decode cX8_init 74 = .ok (.putfield 35, 3) := by decide +kernel
theorem dX8_init_77 : decode cX8_init 77 = .ok (.aload_n 0, 1) := by decide +kernel
theorem dX8_init_78 : decode cX8_init 78 = .ok (.bipush 16, 2) := by decide +kernel
theorem dX8_init_80 : decode cX8_init 80 = .ok (.newarray .int, 2) := by decide +kernel
theorem dX8_init_82 : decode cX8_init 82 = .ok (.putfield 38, 3) := by decide +kernel
theorem dX8_init_85 : decode cX8_init 85 = .ok (.aload_n 0, 1) := by decide +kernel
theorem dX8_init_86 : decode cX8_init 86 = .ok (.bipush 16, 2) := by decide +kernel
theorem dX8_init_88 : decode cX8_init 88 = .ok (.newarray .int, 2) := by decide +kernel
theorem dX8_init_90 : decode cX8_init 90 = .ok (.putfield 41, 3) := by decide +kernel
theorem dX8_init_93 : decode cX8_init 93 = .ok (.aload_n 0, 1) := by decide +kernel
theorem dX8_init_94 : decode cX8_init 94 = .ok (.invokevirtual 44, 3) := by decide +kernel
theorem dX8_init_97 : decode cX8_init 97 = .ok (.iconst 0, 1) := by decide +kernel
theorem dX8_init_98 : decode cX8_init 98 = .ok (.istore_n 1, 1) := by decide +kernel
theorem dX8_init_99 : decode cX8_init 99 = .ok (.iload_n 1, 1) := by decide +kernel
theorem dX8_init_100 : decode cX8_init 100 = .ok (.bipush 65, 2) := by decide +kernel
theorem dX8_init_102 : decode cX8_init 102 = .ok (.if_icmp .ge 21, 3) := by decide +kernel
theorem dX8_init_105 : decode cX8_init 105 = .ok (.aload_n 0, 1) := by decide +kernel
theorem dX8_init_106 : decode cX8_init 106 = .ok (.getfield 13, 3) := by decide +kernel
theorem dX8_init_109 : decode cX8_init 109 = .ok (.iload_n 1, 1) := by decide +kernel
theorem dX8_init_110 : decode cX8_init 110 = .ok (.aload_n 0, 1) := by decide +kernel
theorem dX8_init_111 : decode cX8_init 111 = .ok (.getfield 16, 3) := by decide +kernel
theorem dX8_init_114 : decode cX8_init 114 = .ok (.iload_n 1, 1) := by decide +kernel
theorem dX8_init_115 : decode cX8_init 115 = .ok (.iaload, 1) := by decide +kernel
theorem dX8_init_116 : decode cX8_init 116 = .ok (.iastore, 1) := by decide +kernel
theorem dX8_init_117 : decode cX8_init 117 = .ok (.iinc 1 1, 3) := by decide +kernel
theorem dX8_init_120 : decode cX8_init 120 = .ok (.goto (-21), 3) := by decide +kernel
theorem dX8_init_123 : decode cX8_init 123 = .ok (.return_, 1) := by decide +kernel
theorem dX8_thrown_0 : decode cX8_thrown 0 = .ok (.aload_n 0, 1) := by decide +kernel
theorem dX8_thrown_1 : decode cX8_thrown 1 = .ok (.getfield 47, 3) := by decide +kernel
theorem dX8_thrown_4 : decode cX8_thrown 4 = .ok (.ireturn, 1) := by decide +kernel
theorem dX8_feed_0 : decode cX8_feed 0 = .ok (.aload_n 0, 1) := by decide +kernel
theorem dX8_feed_1 : decode cX8_feed 1 = .ok (.iconst 0, 1) := by decide +kernel
theorem dX8_feed_2 : decode cX8_feed 2 = .ok (.putfield 47, 3) := by decide +kernel
theorem dX8_feed_5 : decode cX8_feed 5 = .ok (.aload_n 0, 1) := by decide +kernel
theorem dX8_feed_6 : decode cX8_feed 6 = .ok (.getfield 50, 3) := by decide +kernel
theorem dX8_feed_9 : decode cX8_feed 9 = .ok (.bipush 20, 2) := by decide +kernel
theorem dX8_feed_11 : decode cX8_feed 11 = .ok (.iadd, 1) := by decide +kernel
theorem dX8_feed_12 : decode cX8_feed 12 = .ok (.sipush 1000, 3) := by decide +kernel
theorem dX8_feed_15 : decode cX8_feed 15 = .ok (.if_icmp .le 6, 3) := by decide +kernel
theorem dX8_feed_18 : decode cX8_feed 18 = .ok (.bipush (-3), 2) := by decide +kernel
theorem dX8_feed_20 : decode cX8_feed 20 = .ok (.ireturn, 1) := by decide +kernel
theorem dX8_feed_21 : decode cX8_feed 21 = .ok (.iconst 0, 1) := by decide +kernel
theorem dX8_feed_22 : decode cX8_feed 22 = .ok (.istore 6, 2) := by decide +kernel
theorem dX8_feed_24 : decode cX8_feed 24 = .ok (.iload 6, 2) := by decide +kernel
theorem dX8_feed_26 : decode cX8_feed 26 = .ok (.bipush 20, 2) := by decide +kernel
theorem dX8_feed_28 : decode cX8_feed 28 = .ok (.if_icmp .ge 86, 3) := by decide +kernel
theorem dX8_feed_31 : decode cX8_feed 31 = .ok (.iload 6, 2) := by decide +kernel
theorem dX8_feed_33 : decode cX8_feed 33 = .ok (.iconst 4, 1) := by decide +kernel
theorem dX8_feed_34 : decode cX8_feed 34 = .ok (.if_icmp .ge 7, 3) := by decide +kernel
theorem dX8_feed_37 : decode cX8_feed 37 = .ok (.iload_n 1, 1) := by decide +kernel
theorem dX8_feed_38 : decode cX8_feed 38 = .ok (.goto 39, 3) := by decide +kernel
theorem dX8_feed_41 : decode cX8_feed 41 = .ok (.iload 6, 2) := by decide +kernel
theorem dX8_feed_43 : decode cX8_feed 43 = .ok (.bipush 8, 2) := by decide +kernel
theorem dX8_feed_45 : decode cX8_feed 45 = .ok (.if_icmp .ge 7, 3) := by decide +kernel
theorem dX8_feed_48 : decode cX8_feed 48 = .ok (.iload_n 2, 1) := by decide +kernel
theorem dX8_feed_49 : decode cX8_feed 49 = .ok (.goto 28, 3) := by decide +kernel
theorem dX8_feed_52 : decode cX8_feed 52 = .ok (.iload 6, 2) := by decide +kernel
theorem dX8_feed_54 : decode cX8_feed 54 = .ok (.bipush 12, 2) := by decide +kernel
theorem dX8_feed_56 : decode cX8_feed 56 = .ok (.if_icmp .ge 7, 3) := by decide +kernel
theorem dX8_feed_59 : decode cX8_feed 59 = .ok (.iload_n 3, 1) := by decide +kernel
theorem dX8_feed_60 : decode cX8_feed 60 = .ok (.goto 17, 3) := by decide +kernel
theorem dX8_feed_63 : decode cX8_feed 63 = .ok (.iload 6, 2) := by decide +kernel
theorem dX8_feed_65 : decode cX8_feed 65 = .ok (.bipush 16, 2) := by decide +kernel
theorem dX8_feed_67 : decode cX8_feed 67 = .ok (.if_icmp .ge 8, 3) := by decide +kernel
theorem dX8_feed_70 : decode cX8_feed 70 = .ok (.iload 4, 2) := by decide +kernel
theorem dX8_feed_72 : decode cX8_feed 72 = .ok (.goto 5, 3) := by decide +kernel
theorem dX8_feed_75 : decode cX8_feed 75 = .ok (.iload 5, 2) := by decide +kernel
theorem dX8_feed_77 : decode cX8_feed 77 = .ok (.istore 7, 2) := by decide +kernel
theorem dX8_feed_79 : decode cX8_feed 79 = .ok (.aload_n 0, 1) := by decide +kernel
theorem dX8_feed_80 : decode cX8_feed 80 = .ok (.getfield 7, 3) := by decide +kernel
theorem dX8_feed_83 : decode cX8_feed 83 = .ok (.aload_n 0, 1) := by decide +kernel
theorem dX8_feed_84 : decode cX8_feed 84 = .ok (.getfield 50, 3) := by decide +kernel
theorem dX8_feed_87 : decode cX8_feed 87 = .ok (.iload 6, 2) := by decide +kernel
theorem dX8_feed_89 : decode cX8_feed 89 = .ok (.iadd, 1) := by decide +kernel
theorem dX8_feed_90 : decode cX8_feed 90 = .ok (.iload 7, 2) := by decide +kernel
theorem dX8_feed_92 : decode cX8_feed 92 = .ok (.bipush 24, 2) := by decide +kernel
theorem dX8_feed_94 : decode cX8_feed 94 = .ok (.bipush 8, 2) := by decide +kernel
theorem dX8_feed_96 : decode cX8_feed 96 = .ok (.iload 6, 2) := by decide +kernel
theorem dX8_feed_98 : decode cX8_feed 98 = .ok (.iconst 4, 1) := by decide +kernel
theorem dX8_feed_99 : decode cX8_feed 99 = .ok (.irem, 1) := by decide +kernel
theorem dX8_feed_100 : decode cX8_feed 100 = .ok (.imul, 1) := by decide +kernel
theorem dX8_feed_101 : decode cX8_feed 101 = .ok (.isub, 1) := by decide +kernel
theorem dX8_feed_102 : decode cX8_feed 102 = .ok (.ishr, 1) := by decide +kernel
theorem dX8_feed_103 : decode cX8_feed 103 = .ok (.sipush 255, 3) := by decide +kernel
theorem dX8_feed_106 : decode cX8_feed 106 = .ok (.iand, 1) := by decide +kernel
theorem dX8_feed_107 : decode cX8_feed 107 = .ok (.iastore, 1) := by decide +kernel
theorem dX8_feed_108 : decode cX8_feed 108 = .ok (.iinc 6 1, 3) := by decide +kernel
theorem dX8_feed_111 : decode cX8_feed 111 = .ok (.goto (-87), 3) := by decide +kernel
theorem dX8_feed_114 : decode cX8_feed 114 = .ok (.aload_n 0, 1) := by decide +kernel
theorem dX8_feed_115 : decode cX8_feed 115 = .ok (.dup, 1) := by decide +kernel
theorem dX8_feed_116 : decode cX8_feed 116 = .ok (.getfield 50, 3) := by decide +kernel
theorem dX8_feed_119 : decode cX8_feed 119 = .ok (.bipush 20, 2) := by decide +kernel
theorem dX8_feed_121 : decode cX8_feed 121 = .ok (.iadd, 1) := by decide +kernel
theorem dX8_feed_122 : decode cX8_feed 122 = .ok (.putfield 50, 3) := by decide +kernel
theorem dX8_feed_125 : decode cX8_feed 125 = .ok (.aload_n 0, 1) := by decide +kernel
theorem dX8_feed_126 : decode cX8_feed 126 = .ok (.getfield 50, 3) := by decide +kernel
theorem dX8_feed_129 : decode cX8_feed 129 = .ok (.ireturn, 1) := by decide +kernel
theorem dX8_newExchange_0 : decode cX8_newExchange 0 = .ok (.iconst 0, 1) := by decide +kernel
theorem dX8_newExchange_1 : decode cX8_newExchange 1 = .ok (.istore_n 1, 1) := by decide +kernel
theorem dX8_newExchange_2 : decode cX8_newExchange 2 = .ok (.iload_n 1, 1) := by decide +kernel
theorem dX8_newExchange_3 : decode cX8_newExchange 3 = .ok (.bipush 65, 2) := by decide +kernel
theorem dX8_newExchange_5 : decode cX8_newExchange 5 = .ok (.if_icmp .ge 16, 3) := by decide +kernel
theorem dX8_newExchange_8 : decode cX8_newExchange 8 = .ok (.aload_n 0, 1) := by decide +kernel
theorem dX8_newExchange_9 : decode cX8_newExchange 9 = .ok (.getfield 16, 3) := by decide +kernel
theorem dX8_newExchange_12 : decode cX8_newExchange 12 = .ok (.iload_n 1, 1) := by decide +kernel
theorem dX8_newExchange_13 : decode cX8_newExchange 13 = .ok (.iconst 0, 1) := by decide +kernel
theorem dX8_newExchange_14 : decode cX8_newExchange 14 = .ok (.iastore, 1) := by decide +kernel
theorem dX8_newExchange_15 : decode cX8_newExchange 15 = .ok (.iinc 1 1, 3) := by decide +kernel
theorem dX8_newExchange_18 : decode cX8_newExchange 18 = .ok (.goto (-16), 3) := by decide +kernel
theorem dX8_newExchange_21 : decode cX8_newExchange 21 = .ok (.aload_n 0, 1) := by decide +kernel
theorem dX8_newExchange_22 : decode cX8_newExchange 22 = .ok (.getfield 16, 3) := by decide +kernel
theorem dX8_newExchange_25 : decode cX8_newExchange 25 = .ok (.bipush 64, 2) := by decide +kernel
theorem dX8_newExchange_27 : decode cX8_newExchange 27 = .ok (.iconst 1, 1) := by decide +kernel
theorem dX8_newExchange_28 : decode cX8_newExchange 28 = .ok (.iastore, 1) := by decide +kernel
theorem dX8_newExchange_29 : decode cX8_newExchange 29 = .ok (.iconst 0, 1) := by decide +kernel
theorem dX8_newExchange_30 : decode cX8_newExchange 30 = .ok (.istore_n 1, 1) := by decide +kernel
theorem dX8_newExchange_31 : decode cX8_newExchange 31 = .ok (.iload_n 1, 1) := by decide +kernel
theorem dX8_newExchange_32 : decode cX8_newExchange 32 = .ok (.sipush 597, 3) := by decide +kernel
theorem dX8_newExchange_35 : decode cX8_newExchange 35 = .ok (.if_icmp .ge 16, 3) := by decide +kernel
theorem dX8_newExchange_38 : decode cX8_newExchange 38 = .ok (.aload_n 0, 1) := by decide +kernel
theorem dX8_newExchange_39 : decode cX8_newExchange 39 = .ok (.getfield 19, 3) := by decide +kernel
theorem dX8_newExchange_42 : decode cX8_newExchange 42 = .ok (.iload_n 1, 1) := by decide +kernel
theorem dX8_newExchange_43 : decode cX8_newExchange 43 = .ok (.iconst 0, 1) := by decide +kernel
theorem dX8_newExchange_44 : decode cX8_newExchange 44 = .ok (.iastore, 1) := by decide +kernel
theorem dX8_newExchange_45 : decode cX8_newExchange 45 = .ok (.iinc 1 1, 3) := by decide +kernel
theorem dX8_newExchange_48 : decode cX8_newExchange 48 = .ok (.goto (-17), 3) := by decide +kernel
theorem dX8_newExchange_51 : decode cX8_newExchange 51 = .ok (.aload_n 0, 1) := by decide +kernel
theorem dX8_newExchange_52 : decode cX8_newExchange 52 = .ok (.getfield 19, 3) := by decide +kernel
theorem dX8_newExchange_55 : decode cX8_newExchange 55 = .ok (.iconst 1, 1) := by decide +kernel
theorem dX8_newExchange_56 : decode cX8_newExchange 56 = .ok (.sipush 1000, 3) := by decide +kernel
theorem dX8_newExchange_59 : decode cX8_newExchange 59 = .ok (.iastore, 1) := by decide +kernel
theorem dX8_newExchange_60 : decode cX8_newExchange 60 = .ok (.aload_n 0, 1) := by decide +kernel
theorem dX8_newExchange_61 : decode cX8_newExchange 61 = .ok (.getfield 19, 3) := by decide +kernel
theorem dX8_newExchange_64 : decode cX8_newExchange 64 = .ok (.iconst 2, 1) := by decide +kernel
theorem dX8_newExchange_65 : decode cX8_newExchange 65 = .ok (.bipush 10, 2) := by decide +kernel
theorem dX8_newExchange_67 : decode cX8_newExchange 67 = .ok (.iastore, 1) := by decide +kernel
theorem dX8_newExchange_68 : decode cX8_newExchange 68 = .ok (.aload_n 0, 1) := by decide +kernel
theorem dX8_newExchange_69 : decode cX8_newExchange 69 = .ok (.getfield 19, 3) := by decide +kernel
theorem dX8_newExchange_72 : decode cX8_newExchange 72 = .ok (.iconst 3, 1) := by decide +kernel
theorem dX8_newExchange_73 : decode cX8_newExchange 73 = .ok (.bipush 50, 2) := by decide +kernel
theorem dX8_newExchange_75 : decode cX8_newExchange 75 = .ok (.iastore, 1) := by decide +kernel
theorem dX8_newExchange_76 : decode cX8_newExchange 76 = .ok (.aload_n 0, 1) := by decide +kernel
theorem dX8_newExchange_77 : decode cX8_newExchange 77 = .ok (.getfield 19, 3) := by decide +kernel
theorem dX8_newExchange_80 : decode cX8_newExchange 80 = .ok (.iconst 4, 1) := by decide +kernel
theorem dX8_newExchange_81 : decode cX8_newExchange 81 = .ok (.bipush 20, 2) := by decide +kernel
theorem dX8_newExchange_83 : decode cX8_newExchange 83 = .ok (.iastore, 1) := by decide +kernel
theorem dX8_newExchange_84 : decode cX8_newExchange 84 = .ok (.aload_n 0, 1) := by decide +kernel
theorem dX8_newExchange_85 : decode cX8_newExchange 85 = .ok (.getfield 19, 3) := by decide +kernel
theorem dX8_newExchange_88 : decode cX8_newExchange 88 = .ok (.iconst 5, 1) := by decide +kernel
theorem dX8_newExchange_89 : decode cX8_newExchange 89 = .ok (.sipush 300, 3) := by decide +kernel
theorem dX8_newExchange_92 : decode cX8_newExchange 92 = .ok (.iastore, 1) := by decide +kernel
theorem dX8_newExchange_93 : decode cX8_newExchange 93 = .ok (.aload_n 0, 1) := by decide +kernel
theorem dX8_newExchange_94 : decode cX8_newExchange 94 = .ok (.getfield 19, 3) := by decide +kernel
theorem dX8_newExchange_97 : decode cX8_newExchange 97 = .ok (.bipush 6, 2) := by decide +kernel
theorem dX8_newExchange_99 : decode cX8_newExchange 99 = .ok (.bipush 20, 2) := by decide +kernel
theorem dX8_newExchange_101 : decode cX8_newExchange 101 = .ok (.iastore, 1) := by decide +kernel
theorem dX8_newExchange_102 : decode cX8_newExchange 102 = .ok (.aload_n 0, 1) := by decide +kernel
theorem dX8_newExchange_103 : decode cX8_newExchange 103 = .ok (.getfield 19, 3) := by decide +kernel
theorem dX8_newExchange_106 : decode cX8_newExchange 106 = .ok (.bipush 7, 2) := by decide +kernel
theorem dX8_newExchange_108 : decode cX8_newExchange 108 = .ok (.bipush 50, 2) := by decide +kernel
theorem dX8_newExchange_110 : decode cX8_newExchange 110 = .ok (.iastore, 1) := by decide +kernel
theorem dX8_newExchange_111 : decode cX8_newExchange 111 = .ok (.aload_n 0, 1) := by decide +kernel
theorem dX8_newExchange_112 : decode cX8_newExchange 112 = .ok (.iconst 0, 1) := by decide +kernel
theorem dX8_newExchange_113 : decode cX8_newExchange 113 = .ok (.putfield 53, 3) := by decide +kernel
theorem dX8_newExchange_116 : decode cX8_newExchange 116 = .ok (.aload_n 0, 1) := by decide +kernel
theorem dX8_newExchange_117 : decode cX8_newExchange 117 = .ok (.iconst 0, 1) := by decide +kernel
theorem dX8_newExchange_118 : decode cX8_newExchange 118 = .ok (.putfield 56, 3) := by decide +kernel
theorem dX8_newExchange_121 : decode cX8_newExchange 121 = .ok (.aload_n 0, 1) := by decide +kernel
theorem dX8_newExchange_122 : decode cX8_newExchange 122 = .ok (.iconst 0, 1) := by decide +kernel
theorem dX8_newExchange_123 : decode cX8_newExchange 123 = .ok (.putfield 60, 3) := by decide +kernel
theorem dX8_newExchange_126 : decode cX8_newExchange 126 = .ok (.return_, 1) := by decide +kernel
theorem dX8_here_0 : decode cX8_here 0 = .ok (.aload_n 0, 1) := by decide +kernel
theorem dX8_here_1 : decode cX8_here 1 = .ok (.getfield 63, 3) := by decide +kernel
theorem dX8_here_4 : decode cX8_here 4 = .ok (.aload_n 0, 1) := by decide +kernel
theorem dX8_here_5 : decode cX8_here 5 = .ok (.getfield 66, 3) := by decide +kernel
theorem dX8_here_8 : decode cX8_here 8 = .ok (.if_icmp .ge 15, 3) := by decide +kernel
theorem dX8_here_11 : decode cX8_here 11 = .ok (.aload_n 0, 1) := by decide +kernel
theorem dX8_here_12 : decode cX8_here 12 = .ok (.getfield 7, 3) := by decide +kernel
theorem dX8_here_15 : decode cX8_here 15 = .ok (.aload_n 0, 1) := by decide +kernel
theorem dX8_here_16 : decode cX8_here 16 = .ok (.getfield 63, 3) := by decide +kernel
theorem dX8_here_19 : decode cX8_here 19 = .ok (.iaload, 1) := by decide +kernel
theorem dX8_here_20 : decode cX8_here 20 = .ok (.goto 4, 3) := by decide +kernel
theorem dX8_here_23 : decode cX8_here 23 = .ok (.iconst (-1), 1) := by decide +kernel
theorem dX8_here_24 : decode cX8_here 24 = .ok (.ireturn, 1) := by decide +kernel
theorem dX8_isSmall_0 : decode cX8_isSmall 0 = .ok (.iload_n 0, 1) := by decide +kernel
theorem dX8_isSmall_1 : decode cX8_isSmall 1 = .ok (.bipush 97, 2) := by decide +kernel
theorem dX8_isSmall_3 : decode cX8_isSmall 3 = .ok (.if_icmp .lt 13, 3) := by decide +kernel
theorem dX8_isSmall_6 : decode cX8_isSmall 6 = .ok (.iload_n 0, 1) := by decide +kernel
theorem dX8_isSmall_7 : decode cX8_isSmall 7 = .ok (.bipush 122, 2) := by decide +kernel
theorem dX8_isSmall_9 : decode cX8_isSmall 9 = .ok (.if_icmp .gt 7, 3) := by decide +kernel
theorem dX8_isSmall_12 : decode cX8_isSmall 12 = .ok (.iconst 1, 1) := by decide +kernel
theorem dX8_isSmall_13 : decode cX8_isSmall 13 = .ok (.goto 4, 3) := by decide +kernel
theorem dX8_isSmall_16 : decode cX8_isSmall 16 = .ok (.iconst 0, 1) := by decide +kernel
theorem dX8_isSmall_17 : decode cX8_isSmall 17 = .ok (.ireturn, 1) := by decide +kernel
theorem dX8_isDigit_0 : decode cX8_isDigit 0 = .ok (.iload_n 0, 1) := by decide +kernel
theorem dX8_isDigit_1 : decode cX8_isDigit 1 = .ok (.bipush 48, 2) := by decide +kernel
theorem dX8_isDigit_3 : decode cX8_isDigit 3 = .ok (.if_icmp .lt 13, 3) := by decide +kernel
theorem dX8_isDigit_6 : decode cX8_isDigit 6 = .ok (.iload_n 0, 1) := by decide +kernel
theorem dX8_isDigit_7 : decode cX8_isDigit 7 = .ok (.bipush 57, 2) := by decide +kernel
theorem dX8_isDigit_9 : decode cX8_isDigit 9 = .ok (.if_icmp .gt 7, 3) := by decide +kernel
theorem dX8_isDigit_12 : decode cX8_isDigit 12 = .ok (.iconst 1, 1) := by decide +kernel
theorem dX8_isDigit_13 : decode cX8_isDigit 13 = .ok (.goto 4, 3) := by decide +kernel
theorem dX8_isDigit_16 : decode cX8_isDigit 16 = .ok (.iconst 0, 1) := by decide +kernel
theorem dX8_isDigit_17 : decode cX8_isDigit 17 = .ok (.ireturn, 1) := by decide +kernel
theorem dX8_next_0 : decode cX8_next 0 = .ok (.aload_n 0, 1) := by decide +kernel
theorem dX8_next_1 : decode cX8_next 1 = .ok (.invokevirtual 69, 3) := by decide +kernel
theorem dX8_next_4 : decode cX8_next 4 = .ok (.bipush 10, 2) := by decide +kernel
theorem dX8_next_6 : decode cX8_next 6 = .ok (.if_icmp .eq 12, 3) := by decide +kernel
theorem dX8_next_9 : decode cX8_next 9 = .ok (.aload_n 0, 1) := by decide +kernel
theorem dX8_next_10 : decode cX8_next 10 = .ok (.invokevirtual 69, 3) := by decide +kernel
theorem dX8_next_13 : decode cX8_next 13 = .ok (.bipush 32, 2) := by decide +kernel
theorem dX8_next_15 : decode cX8_next 15 = .ok (.if_icmp .ne 16, 3) := by decide +kernel
theorem dX8_next_18 : decode cX8_next 18 = .ok (.aload_n 0, 1) := by decide +kernel
theorem dX8_next_19 : decode cX8_next 19 = .ok (.dup, 1) := by decide +kernel
theorem dX8_next_20 : decode cX8_next 20 = .ok (.getfield 63, 3) := by decide +kernel
theorem dX8_next_23 : decode cX8_next 23 = .ok (.iconst 1, 1) := by decide +kernel
theorem dX8_next_24 : decode cX8_next 24 = .ok (.iadd, 1) := by decide +kernel
theorem dX8_next_25 : decode cX8_next 25 = .ok (.putfield 63, 3) := by decide +kernel
theorem dX8_next_28 : decode cX8_next 28 = .ok (.goto (-28), 3) := by decide +kernel
theorem dX8_next_31 : decode cX8_next 31 = .ok (.aload_n 0, 1) := by decide +kernel
theorem dX8_next_32 : decode cX8_next 32 = .ok (.aload_n 0, 1) := by decide +kernel
theorem dX8_next_33 : decode cX8_next 33 = .ok (.getfield 63, 3) := by decide +kernel
theorem dX8_next_36 : decode cX8_next 36 = .ok (.putfield 73, 3) := by decide +kernel
theorem dX8_next_39 : decode cX8_next 39 = .ok (.aload_n 0, 1) := by decide +kernel
theorem dX8_next_40 : decode cX8_next 40 = .ok (.invokevirtual 69, 3) := by decide +kernel
theorem dX8_next_43 : decode cX8_next 43 = .ok (.istore_n 1, 1) := by decide +kernel
theorem dX8_next_44 : decode cX8_next 44 = .ok (.iload_n 1, 1) := by decide +kernel
theorem dX8_next_45 : decode cX8_next 45 = .ok (.iconst (-1), 1) := by decide +kernel
theorem dX8_next_46 : decode cX8_next 46 = .ok (.if_icmp .ne 11, 3) := by decide +kernel
theorem dX8_next_49 : decode cX8_next 49 = .ok (.aload_n 0, 1) := by decide +kernel
theorem dX8_next_50 : decode cX8_next 50 = .ok (.iconst 4, 1) := by decide +kernel
theorem dX8_next_51 : decode cX8_next 51 = .ok (.putfield 76, 3) := by decide +kernel
theorem dX8_next_54 : decode cX8_next 54 = .ok (.goto 159, 3) := by decide +kernel
theorem dX8_next_57 : decode cX8_next 57 = .ok (.iload_n 1, 1) := by decide +kernel
theorem dX8_next_58 : decode cX8_next 58 = .ok (.invokestatic 79, 3) := by decide +kernel
theorem dX8_next_61 : decode cX8_next 61 = .ok (.ifCond .eq 42, 3) := by decide +kernel
theorem dX8_next_64 : decode cX8_next 64 = .ok (.aload_n 0, 1) := by decide +kernel
theorem dX8_next_65 : decode cX8_next 65 = .ok (.invokevirtual 69, 3) := by decide +kernel
theorem dX8_next_68 : decode cX8_next 68 = .ok (.invokestatic 79, 3) := by decide +kernel
theorem dX8_next_71 : decode cX8_next 71 = .ok (.ifCond .eq 16, 3) := by decide +kernel
theorem dX8_next_74 : decode cX8_next 74 = .ok (.aload_n 0, 1) := by decide +kernel
theorem dX8_next_75 : decode cX8_next 75 = .ok (.dup, 1) := by decide +kernel
theorem dX8_next_76 : decode cX8_next 76 = .ok (.getfield 63, 3) := by decide +kernel
theorem dX8_next_79 : decode cX8_next 79 = .ok (.iconst 1, 1) := by decide +kernel
theorem dX8_next_80 : decode cX8_next 80 = .ok (.iadd, 1) := by decide +kernel
theorem dX8_next_81 : decode cX8_next 81 = .ok (.putfield 63, 3) := by decide +kernel
theorem dX8_next_84 : decode cX8_next 84 = .ok (.goto (-20), 3) := by decide +kernel
theorem dX8_next_87 : decode cX8_next 87 = .ok (.aload_n 0, 1) := by decide +kernel
theorem dX8_next_88 : decode cX8_next 88 = .ok (.iconst 0, 1) := by decide +kernel
theorem dX8_next_89 : decode cX8_next 89 = .ok (.putfield 76, 3) := by decide +kernel
theorem dX8_next_92 : decode cX8_next 92 = .ok (.aload_n 0, 1) := by decide +kernel
theorem dX8_next_93 : decode cX8_next 93 = .ok (.aload_n 0, 1) := by decide +kernel
theorem dX8_next_94 : decode cX8_next 94 = .ok (.invokevirtual 83, 3) := by decide +kernel
theorem dX8_next_97 : decode cX8_next 97 = .ok (.putfield 86, 3) := by decide +kernel
theorem dX8_next_100 : decode cX8_next 100 = .ok (.goto 113, 3) := by decide +kernel
theorem dX8_next_103 : decode cX8_next 103 = .ok (.iload_n 1, 1) := by decide +kernel
theorem dX8_next_104 : decode cX8_next 104 = .ok (.invokestatic 89, 3) := by decide +kernel
theorem dX8_next_107 : decode cX8_next 107 = .ok (.ifCond .eq 71, 3) := by decide +kernel
theorem dX8_next_110 : decode cX8_next 110 = .ok (.aload_n 0, 1) := by decide +kernel
theorem dX8_next_111 : decode cX8_next 111 = .ok (.iconst 1, 1) := by decide +kernel
theorem dX8_next_112 : decode cX8_next 112 = .ok (.putfield 76, 3) := by decide +kernel
theorem dX8_next_115 : decode cX8_next 115 = .ok (.aload_n 0, 1) := by decide +kernel
theorem dX8_next_116 : decode cX8_next 116 = .ok (.iconst 0, 1) := by decide +kernel
theorem dX8_next_117 : decode cX8_next 117 = .ok (.putfield 86, 3) := by decide +kernel
theorem dX8_next_120 : decode cX8_next 120 = .ok (.aload_n 0, 1) := by decide +kernel
theorem dX8_next_121 : decode cX8_next 121 = .ok (.invokevirtual 69, 3) := by decide +kernel
theorem dX8_next_124 : decode cX8_next 124 = .ok (.invokestatic 89, 3) := by decide +kernel
theorem dX8_next_127 : decode cX8_next 127 = .ok (.ifCond .eq 86, 3) := by decide +kernel
theorem dX8_next_130 : decode cX8_next 130 = .ok (.aload_n 0, 1) := by decide +kernel
theorem dX8_next_131 : decode cX8_next 131 = .ok (.aload_n 0, 1) := by decide +kernel
theorem dX8_next_132 : decode cX8_next 132 = .ok (.getfield 86, 3) := by decide +kernel
theorem dX8_next_135 : decode cX8_next 135 = .ok (.ldc 92, 2) := by decide +kernel
theorem dX8_next_137 : decode cX8_next 137 = .ok (.if_icmp .le 10, 3) := by decide +kernel
theorem dX8_next_140 : decode cX8_next 140 = .ok (.aload_n 0, 1) := by decide +kernel
theorem dX8_next_141 : decode cX8_next 141 = .ok (.getfield 86, 3) := by decide +kernel
theorem dX8_next_144 : decode cX8_next 144 = .ok (.goto 18, 3) := by decide +kernel
theorem dX8_next_147 : decode cX8_next 147 = .ok (.bipush 10, 2) := by decide +kernel
theorem dX8_next_149 : decode cX8_next 149 = .ok (.aload_n 0, 1) := by decide +kernel
theorem dX8_next_150 : decode cX8_next 150 = .ok (.getfield 86, 3) := by decide +kernel
theorem dX8_next_153 : decode cX8_next 153 = .ok (.imul, 1) := by decide +kernel
theorem dX8_next_154 : decode cX8_next 154 = .ok (.aload_n 0, 1) := by decide +kernel
theorem dX8_next_155 : decode cX8_next 155 = .ok (.invokevirtual 69, 3) := by decide +kernel
theorem dX8_next_158 : decode cX8_next 158 = .ok (.iadd, 1) := by decide +kernel
theorem dX8_next_159 : decode cX8_next 159 = .ok (.bipush 48, 2) := by decide +kernel
theorem dX8_next_161 : decode cX8_next 161 = .ok (.isub, 1) := by decide +kernel
theorem dX8_next_162 : decode cX8_next 162 = .ok (.putfield 86, 3) := by decide +kernel
theorem dX8_next_165 : decode cX8_next 165 = .ok (.aload_n 0, 1) := by decide +kernel
theorem dX8_next_166 : decode cX8_next 166 = .ok (.dup, 1) := by decide +kernel
theorem dX8_next_167 : decode cX8_next 167 = .ok (.getfield 63, 3) := by decide +kernel
theorem dX8_next_170 : decode cX8_next 170 = .ok (.iconst 1, 1) := by decide +kernel
theorem dX8_next_171 : decode cX8_next 171 = .ok (.iadd, 1) := by decide +kernel
theorem dX8_next_172 : decode cX8_next 172 = .ok (.putfield 63, 3) := by decide +kernel
theorem dX8_next_175 : decode cX8_next 175 = .ok (.goto (-55), 3) := by decide +kernel
theorem dX8_next_178 : decode cX8_next 178 = .ok (.aload_n 0, 1) := by decide +kernel
theorem dX8_next_179 : decode cX8_next 179 = .ok (.iload_n 1, 1) := by decide +kernel
theorem dX8_next_180 : decode cX8_next 180 = .ok (.bipush 59, 2) := by decide +kernel
theorem dX8_next_182 : decode cX8_next 182 = .ok (.if_icmp .ne 7, 3) := by decide +kernel
theorem dX8_next_185 : decode cX8_next 185 = .ok (.iconst 2, 1) := by decide +kernel
theorem dX8_next_186 : decode cX8_next 186 = .ok (.goto 14, 3) := by decide +kernel
theorem dX8_next_189 : decode cX8_next 189 = .ok (.iload_n 1, 1) := by decide +kernel
theorem dX8_next_190 : decode cX8_next 190 = .ok (.bipush 45, 2) := by decide +kernel
theorem dX8_next_192 : decode cX8_next 192 = .ok (.if_icmp .ne 7, 3) := by decide +kernel
theorem dX8_next_195 : decode cX8_next 195 = .ok (.iconst 3, 1) := by decide +kernel
theorem dX8_next_196 : decode cX8_next 196 = .ok (.goto 4, 3) := by decide +kernel
theorem dX8_next_199 : decode cX8_next 199 = .ok (.iconst 5, 1) := by decide +kernel
theorem dX8_next_200 : decode cX8_next 200 = .ok (.putfield 76, 3) := by decide +kernel
theorem dX8_next_203 : decode cX8_next 203 = .ok (.aload_n 0, 1) := by decide +kernel
theorem dX8_next_204 : decode cX8_next 204 = .ok (.dup, 1) := by decide +kernel
theorem dX8_next_205 : decode cX8_next 205 = .ok (.getfield 63, 3) := by decide +kernel
theorem dX8_next_208 : decode cX8_next 208 = .ok (.iconst 1, 1) := by decide +kernel
theorem dX8_next_209 : decode cX8_next 209 = .ok (.iadd, 1) := by decide +kernel
theorem dX8_next_210 : decode cX8_next 210 = .ok (.putfield 63, 3) := by decide +kernel
theorem dX8_next_213 : decode cX8_next 213 = .ok (.return_, 1) := by decide +kernel
theorem dX8_wordHere_0 : decode cX8_wordHere 0 = .ok (.iconst 0, 1) := by decide +kernel
theorem dX8_wordHere_1 : decode cX8_wordHere 1 = .ok (.istore_n 1, 1) := by decide +kernel
theorem dX8_wordHere_2 : decode cX8_wordHere 2 = .ok (.iconst 0, 1) := by decide +kernel
theorem dX8_wordHere_3 : decode cX8_wordHere 3 = .ok (.istore_n 2, 1) := by decide +kernel
theorem dX8_wordHere_4 : decode cX8_wordHere 4 = .ok (.iload_n 2, 1) := by decide +kernel
theorem dX8_wordHere_5 : decode cX8_wordHere 5 = .ok (.ldc 93, 2) := by decide +kernel
theorem dX8_wordHere_7 : decode cX8_wordHere 7 = .ok (.invokevirtual 95, 3) := by decide +kernel
theorem dX8_wordHere_10 : decode cX8_wordHere 10 = .ok (.if_icmp .ge 113, 3) := by decide +kernel
theorem dX8_wordHere_13 : decode cX8_wordHere 13 = .ok (.iconst 0, 1) := by decide +kernel
theorem dX8_wordHere_14 : decode cX8_wordHere 14 = .ok (.istore_n 3, 1) := by decide +kernel
theorem dX8_wordHere_15 : decode cX8_wordHere 15 = .ok (.ldc 93, 2) := by decide +kernel
theorem dX8_wordHere_17 : decode cX8_wordHere 17 = .ok (.iload_n 2, 1) := by decide +kernel
theorem dX8_wordHere_18 : decode cX8_wordHere 18 = .ok (.iload_n 3, 1) := by decide +kernel
theorem dX8_wordHere_19 : decode cX8_wordHere 19 = .ok (.iadd, 1) := by decide +kernel
theorem dX8_wordHere_20 : decode cX8_wordHere 20 = .ok (.invokevirtual 100, 3) := by decide +kernel
theorem dX8_wordHere_23 : decode cX8_wordHere 23 = .ok (.bipush 32, 2) := by decide +kernel
theorem dX8_wordHere_25 : decode cX8_wordHere 25 = .ok (.if_icmp .eq 44, 3) := by decide +kernel
theorem dX8_wordHere_28 : decode cX8_wordHere 28 = .ok (.aload_n 0, 1) := by decide +kernel
theorem dX8_wordHere_29 : decode cX8_wordHere 29 = .ok (.getfield 73, 3) := by decide +kernel
theorem dX8_wordHere_32 : decode cX8_wordHere 32 = .ok (.iload_n 3, 1) := by decide +kernel
theorem dX8_wordHere_33 : decode cX8_wordHere 33 = .ok (.iadd, 1) := by decide +kernel
theorem dX8_wordHere_34 : decode cX8_wordHere 34 = .ok (.aload_n 0, 1) := by decide +kernel
theorem dX8_wordHere_35 : decode cX8_wordHere 35 = .ok (.getfield 63, 3) := by decide +kernel
theorem dX8_wordHere_38 : decode cX8_wordHere 38 = .ok (.if_icmp .ge 31, 3) := by decide +kernel
theorem dX8_wordHere_41 : decode cX8_wordHere 41 = .ok (.aload_n 0, 1) := by decide +kernel
theorem dX8_wordHere_42 : decode cX8_wordHere 42 = .ok (.getfield 7, 3) := by decide +kernel
theorem dX8_wordHere_45 : decode cX8_wordHere 45 = .ok (.aload_n 0, 1) := by decide +kernel
theorem dX8_wordHere_46 : decode cX8_wordHere 46 = .ok (.getfield 73, 3) := by decide +kernel
theorem dX8_wordHere_49 : decode cX8_wordHere 49 = .ok (.iload_n 3, 1) := by decide +kernel
theorem dX8_wordHere_50 : decode cX8_wordHere 50 = .ok (.iadd, 1) := by decide +kernel
theorem dX8_wordHere_51 : decode cX8_wordHere 51 = .ok (.iaload, 1) := by decide +kernel
theorem dX8_wordHere_52 : decode cX8_wordHere 52 = .ok (.ldc 93, 2) := by decide +kernel
theorem dX8_wordHere_54 : decode cX8_wordHere 54 = .ok (.iload_n 2, 1) := by decide +kernel
theorem dX8_wordHere_55 : decode cX8_wordHere 55 = .ok (.iload_n 3, 1) := by decide +kernel
theorem dX8_wordHere_56 : decode cX8_wordHere 56 = .ok (.iadd, 1) := by decide +kernel
theorem dX8_wordHere_57 : decode cX8_wordHere 57 = .ok (.invokevirtual 100, 3) := by decide +kernel
theorem dX8_wordHere_60 : decode cX8_wordHere 60 = .ok (.if_icmp .ne 9, 3) := by decide +kernel
theorem dX8_wordHere_63 : decode cX8_wordHere 63 = .ok (.iinc 3 1, 3) := by decide +kernel
theorem dX8_wordHere_66 : decode cX8_wordHere 66 = .ok (.goto (-51), 3) := by decide +kernel
theorem dX8_wordHere_69 : decode cX8_wordHere 69 = .ok (.ldc 93, 2) := by decide +kernel
theorem dX8_wordHere_71 : decode cX8_wordHere 71 = .ok (.iload_n 2, 1) := by decide +kernel
theorem dX8_wordHere_72 : decode cX8_wordHere 72 = .ok (.iload_n 3, 1) := by decide +kernel
theorem dX8_wordHere_73 : decode cX8_wordHere 73 = .ok (.iadd, 1) := by decide +kernel
theorem dX8_wordHere_74 : decode cX8_wordHere 74 = .ok (.invokevirtual 100, 3) := by decide +kernel
theorem dX8_wordHere_77 : decode cX8_wordHere 77 = .ok (.bipush 32, 2) := by decide +kernel
theorem dX8_wordHere_79 : decode cX8_wordHere 79 = .ok (.if_icmp .ne 18, 3) := by decide +kernel
theorem dX8_wordHere_82 : decode cX8_wordHere 82 = .ok (.aload_n 0, 1) := by decide +kernel
theorem dX8_wordHere_83 : decode cX8_wordHere 83 = .ok (.getfield 73, 3) := by decide +kernel
theorem dX8_wordHere_86 : decode cX8_wordHere 86 = .ok (.iload_n 3, 1) := by decide +kernel
theorem dX8_wordHere_87 : decode cX8_wordHere 87 = .ok (.iadd, 1) := by decide +kernel
theorem dX8_wordHere_88 : decode cX8_wordHere 88 = .ok (.aload_n 0, 1) := by decide +kernel
theorem dX8_wordHere_89 : decode cX8_wordHere 89 = .ok (.getfield 63, 3) := by decide +kernel
theorem dX8_wordHere_92 : decode cX8_wordHere 92 = .ok (.if_icmp .ne 5, 3) := by decide +kernel
theorem dX8_wordHere_95 : decode cX8_wordHere 95 = .ok (.iload_n 1, 1) := by decide +kernel
theorem dX8_wordHere_96 : decode cX8_wordHere 96 = .ok (.ireturn, 1) := by decide +kernel
theorem dX8_wordHere_97 : decode cX8_wordHere 97 = .ok (.ldc 93, 2) := by decide +kernel
theorem dX8_wordHere_99 : decode cX8_wordHere 99 = .ok (.iload_n 2, 1) := by decide +kernel
theorem dX8_wordHere_100 : decode cX8_wordHere 100 = .ok (.invokevirtual 100, 3) := by decide +kernel
theorem dX8_wordHere_103 : decode cX8_wordHere 103 = .ok (.bipush 32, 2) := by decide +kernel
theorem dX8_wordHere_105 : decode cX8_wordHere 105 = .ok (.if_icmp .eq 9, 3) := by decide +kernel
theorem dX8_wordHere_108 : decode cX8_wordHere 108 = .ok (.iinc 2 1, 3) := by decide +kernel
theorem dX8_wordHere_111 : decode cX8_wordHere 111 = .ok (.goto (-14), 3) := by decide +kernel
theorem dX8_wordHere_114 : decode cX8_wordHere 114 = .ok (.iinc 2 1, 3) := by decide +kernel
theorem dX8_wordHere_117 : decode cX8_wordHere 117 = .ok (.iinc 1 1, 3) := by decide +kernel
theorem dX8_wordHere_120 : decode cX8_wordHere 120 = .ok (.goto (-116), 3) := by decide +kernel
theorem dX8_wordHere_123 : decode cX8_wordHere 123 = .ok (.iconst (-1), 1) := by decide +kernel
theorem dX8_wordHere_124 : decode cX8_wordHere 124 = .ok (.ireturn, 1) := by decide +kernel
theorem dX8_failsIf_0 : decode cX8_failsIf 0 = .ok (.aload_n 0, 1) := by decide +kernel
theorem dX8_failsIf_1 : decode cX8_failsIf 1 = .ok (.getfield 104, 3) := by decide +kernel
theorem dX8_failsIf_4 : decode cX8_failsIf 4 = .ok (.ifCond .ne 7, 3) := by decide +kernel
theorem dX8_failsIf_7 : decode cX8_failsIf 7 = .ok (.iload_n 1, 1) := by decide +kernel
theorem dX8_failsIf_8 : decode cX8_failsIf 8 = .ok (.ifCond .ne 4, 3) := by decide +kernel
theorem dX8_failsIf_11 : decode cX8_failsIf 11 = .ok (.return_, 1) := by decide +kernel
theorem dX8_failsIf_12 : decode cX8_failsIf 12 = .ok (.aload_n 0, 1) := by decide +kernel
theorem dX8_failsIf_13 : decode cX8_failsIf 13 = .ok (.iload_n 2, 1) := by decide +kernel
theorem dX8_failsIf_14 : decode cX8_failsIf 14 = .ok (.putfield 104, 3) := by decide +kernel
theorem dX8_failsIf_17 : decode cX8_failsIf 17 = .ok (.aload_n 0, 1) := by decide +kernel
theorem dX8_failsIf_18 : decode cX8_failsIf 18 = .ok (.aload_n 0, 1) := by decide +kernel
theorem dX8_failsIf_19 : decode cX8_failsIf 19 = .ok (.getfield 73, 3) := by decide +kernel
theorem dX8_failsIf_22 : decode cX8_failsIf 22 = .ok (.putfield 107, 3) := by decide +kernel
theorem dX8_failsIf_25 : decode cX8_failsIf 25 = .ok (.return_, 1) := by decide +kernel
theorem dX8_goOn_0 : decode cX8_goOn 0 = .ok (.aload_n 0, 1) := by decide +kernel
theorem dX8_goOn_1 : decode cX8_goOn 1 = .ok (.getfield 104, 3) := by decide +kernel
theorem dX8_goOn_4 : decode cX8_goOn 4 = .ok (.ifCond .ne 7, 3) := by decide +kernel
theorem dX8_goOn_7 : decode cX8_goOn 7 = .ok (.aload_n 0, 1) := by decide +kernel
theorem dX8_goOn_8 : decode cX8_goOn 8 = .ok (.invokevirtual 110, 3) := by decide +kernel
theorem dX8_goOn_11 : decode cX8_goOn 11 = .ok (.return_, 1) := by decide +kernel
theorem dX8_integer_0 : decode cX8_integer 0 = .ok (.aload_n 0, 1) := by decide +kernel
theorem dX8_integer_1 : decode cX8_integer 1 = .ok (.aload_n 0, 1) := by decide +kernel
theorem dX8_integer_2 : decode cX8_integer 2 = .ok (.getfield 76, 3) := by decide +kernel
theorem dX8_integer_5 : decode cX8_integer 5 = .ok (.iconst 1, 1) := by decide +kernel
theorem dX8_integer_6 : decode cX8_integer 6 = .ok (.if_icmp .eq 7, 3) := by decide +kernel
theorem dX8_integer_9 : decode cX8_integer 9 = .ok (.iconst 1, 1) := by decide +kernel
theorem dX8_integer_10 : decode cX8_integer 10 = .ok (.goto 4, 3) := by decide +kernel
theorem dX8_integer_13 : decode cX8_integer 13 = .ok (.iconst 0, 1) := by decide +kernel
theorem dX8_integer_14 : decode cX8_integer 14 = .ok (.bipush (-11), 2) := by decide +kernel
theorem dX8_integer_16 : decode cX8_integer 16 = .ok (.invokevirtual 113, 3) := by decide +kernel
theorem dX8_integer_19 : decode cX8_integer 19 = .ok (.aload_n 0, 1) := by decide +kernel
theorem dX8_integer_20 : decode cX8_integer 20 = .ok (.aload_n 0, 1) := by decide +kernel
theorem dX8_integer_21 : decode cX8_integer 21 = .ok (.getfield 86, 3) := by decide +kernel
theorem dX8_integer_24 : decode cX8_integer 24 = .ok (.iload_n 1, 1) := by decide +kernel
theorem dX8_integer_25 : decode cX8_integer 25 = .ok (.if_icmp .lt 11, 3) := by decide +kernel
theorem dX8_integer_28 : decode cX8_integer 28 = .ok (.aload_n 0, 1) := by decide +kernel
theorem dX8_integer_29 : decode cX8_integer 29 = .ok (.getfield 86, 3) := by decide +kernel
theorem dX8_integer_32 : decode cX8_integer 32 = .ok (.iload_n 2, 1) := by decide +kernel
theorem dX8_integer_33 : decode cX8_integer 33 = .ok (.if_icmp .le 7, 3) := by decide +kernel
theorem dX8_integer_36 : decode cX8_integer 36 = .ok (.iconst 1, 1) := by decide +kernel
theorem dX8_integer_37 : decode cX8_integer 37 = .ok (.goto 4, 3) := by decide +kernel
theorem dX8_integer_40 : decode cX8_integer 40 = .ok (.iconst 0, 1) := by decide +kernel
theorem dX8_integer_41 : decode cX8_integer 41 = .ok (.bipush (-12), 2) := by decide +kernel
theorem dX8_integer_43 : decode cX8_integer 43 = .ok (.invokevirtual 113, 3) := by decide +kernel
theorem dX8_integer_46 : decode cX8_integer 46 = .ok (.aload_n 0, 1) := by decide +kernel
theorem dX8_integer_47 : decode cX8_integer 47 = .ok (.getfield 104, 3) := by decide +kernel
theorem dX8_integer_50 : decode cX8_integer 50 = .ok (.ifCond .ne 10, 3) := by decide +kernel
theorem dX8_integer_53 : decode cX8_integer 53 = .ok (.aload_n 0, 1) := by decide +kernel
theorem dX8_integer_54 : decode cX8_integer 54 = .ok (.getfield 86, 3) := by decide +kernel
theorem dX8_integer_57 : decode cX8_integer 57 = .ok (.goto 4, 3) := by decide +kernel
theorem dX8_integer_60 : decode cX8_integer 60 = .ok (.iload_n 1, 1) := by decide +kernel
theorem dX8_integer_61 : decode cX8_integer 61 = .ok (.istore_n 3, 1) := by decide +kernel
theorem dX8_integer_62 : decode cX8_integer 62 = .ok (.aload_n 0, 1) := by decide +kernel
theorem dX8_integer_63 : decode cX8_integer 63 = .ok (.invokevirtual 117, 3) := by decide +kernel
theorem dX8_integer_66 : decode cX8_integer 66 = .ok (.iload_n 3, 1) := by decide +kernel
theorem dX8_integer_67 : decode cX8_integer 67 = .ok (.ireturn, 1) := by decide +kernel
theorem dX8_seesName_0 : decode cX8_seesName 0 = .ok (.aload_n 0, 1) := by decide +kernel
theorem dX8_seesName_1 : decode cX8_seesName 1 = .ok (.aload_n 0, 1) := by decide +kernel
theorem dX8_seesName_2 : decode cX8_seesName 2 = .ok (.getfield 76, 3) := by decide +kernel
theorem dX8_seesName_5 : decode cX8_seesName 5 = .ok (.ifCond .ne 25, 3) := by decide +kernel
theorem dX8_seesName_8 : decode cX8_seesName 8 = .ok (.aload_n 0, 1) := by decide +kernel
theorem dX8_seesName_9 : decode cX8_seesName 9 = .ok (.getfield 86, 3) := by decide +kernel
theorem dX8_seesName_12 : decode cX8_seesName 12 = .ok (.iconst (-1), 1) := by decide +kernel
theorem dX8_seesName_13 : decode cX8_seesName 13 = .ok (.if_icmp .ne 17, 3) := by decide +kernel
theorem dX8_seesName_16 : decode cX8_seesName 16 = .ok (.aload_n 0, 1) := by decide +kernel
theorem dX8_seesName_17 : decode cX8_seesName 17 = .ok (.getfield 63, 3) := by decide +kernel
theorem dX8_seesName_20 : decode cX8_seesName 20 = .ok (.aload_n 0, 1) := by decide +kernel
theorem dX8_seesName_21 : decode cX8_seesName 21 = .ok (.getfield 73, 3) := by decide +kernel
theorem dX8_seesName_24 : decode cX8_seesName 24 = .ok (.isub, 1) := by decide +kernel
theorem dX8_seesName_25 : decode cX8_seesName 25 = .ok (.bipush 6, 2) := by decide +kernel
theorem dX8_seesName_27 : decode cX8_seesName 27 = .ok (.if_icmp .le 7, 3) := by decide +kernel
theorem dX8_seesName_30 : decode cX8_seesName 30 = .ok (.iconst 1, 1) := by decide +kernel
theorem dX8_seesName_31 : decode cX8_seesName 31 = .ok (.goto 4, 3) := by decide +kernel
theorem dX8_seesName_34 : decode cX8_seesName 34 = .ok (.iconst 0, 1) := by decide +kernel
theorem dX8_seesName_35 : decode cX8_seesName 35 = .ok (.bipush (-11), 2) := by decide +kernel
theorem dX8_seesName_37 : decode cX8_seesName 37 = .ok (.invokevirtual 113, 3) := by decide +kernel
theorem dX8_seesName_40 : decode cX8_seesName 40 = .ok (.aload_n 0, 1) := by decide +kernel
theorem dX8_seesName_41 : decode cX8_seesName 41 = .ok (.iconst 0, 1) := by decide +kernel
theorem dX8_seesName_42 : decode cX8_seesName 42 = .ok (.putfield 120, 3) := by decide +kernel
theorem dX8_seesName_45 : decode cX8_seesName 45 = .ok (.iconst 0, 1) := by decide +kernel
theorem dX8_seesName_46 : decode cX8_seesName 46 = .ok (.istore_n 1, 1) := by decide +kernel
theorem dX8_seesName_47 : decode cX8_seesName 47 = .ok (.iload_n 1, 1) := by decide +kernel
theorem dX8_seesName_48 : decode cX8_seesName 48 = .ok (.bipush 6, 2) := by decide +kernel
theorem dX8_seesName_50 : decode cX8_seesName 50 = .ok (.if_icmp .ge 60, 3) := by decide +kernel
theorem dX8_seesName_53 : decode cX8_seesName 53 = .ok (.aload_n 0, 1) := by decide +kernel
theorem dX8_seesName_54 : decode cX8_seesName 54 = .ok (.getfield 104, 3) := by decide +kernel
theorem dX8_seesName_57 : decode cX8_seesName 57 = .ok (.ifCond .ne 53, 3) := by decide +kernel
theorem dX8_seesName_60 : decode cX8_seesName 60 = .ok (.aload_n 0, 1) := by decide +kernel
theorem dX8_seesName_61 : decode cX8_seesName 61 = .ok (.aload_n 0, 1) := by decide +kernel
theorem dX8_seesName_62 : decode cX8_seesName 62 = .ok (.getfield 120, 3) := by decide +kernel
theorem dX8_seesName_65 : decode cX8_seesName 65 = .ok (.iconst 5, 1) := by decide +kernel
theorem dX8_seesName_66 : decode cX8_seesName 66 = .ok (.ishl, 1) := by decide +kernel
theorem dX8_seesName_67 : decode cX8_seesName 67 = .ok (.aload_n 0, 1) := by decide +kernel
theorem dX8_seesName_68 : decode cX8_seesName 68 = .ok (.getfield 73, 3) := by decide +kernel
theorem dX8_seesName_71 : decode cX8_seesName 71 = .ok (.iload_n 1, 1) := by decide +kernel
theorem dX8_seesName_72 : decode cX8_seesName 72 = .ok (.iadd, 1) := by decide +kernel
theorem dX8_seesName_73 : decode cX8_seesName 73 = .ok (.aload_n 0, 1) := by decide +kernel
theorem dX8_seesName_74 : decode cX8_seesName 74 = .ok (.getfield 63, 3) := by decide +kernel
theorem dX8_seesName_77 : decode cX8_seesName 77 = .ok (.if_icmp .ge 22, 3) := by decide +kernel
theorem dX8_seesName_80 : decode cX8_seesName 80 = .ok (.aload_n 0, 1) := by decide +kernel
theorem dX8_seesName_81 : decode cX8_seesName 81 = .ok (.getfield 7, 3) := by decide +kernel
theorem dX8_seesName_84 : decode cX8_seesName 84 = .ok (.aload_n 0, 1) := by decide +kernel
theorem dX8_seesName_85 : decode cX8_seesName 85 = .ok (.getfield 73, 3) := by decide +kernel
theorem dX8_seesName_88 : decode cX8_seesName 88 = .ok (.iload_n 1, 1) := by decide +kernel
theorem dX8_seesName_89 : decode cX8_seesName 89 = .ok (.iadd, 1) := by decide +kernel
theorem dX8_seesName_90 : decode cX8_seesName 90 = .ok (.iaload, 1) := by decide +kernel
theorem dX8_seesName_91 : decode cX8_seesName 91 = .ok (.bipush 97, 2) := by decide +kernel
theorem dX8_seesName_93 : decode cX8_seesName 93 = .ok (.isub, 1) := by decide +kernel
theorem dX8_seesName_94 : decode cX8_seesName 94 = .ok (.iconst 1, 1) := by decide +kernel
theorem dX8_seesName_95 : decode cX8_seesName 95 = .ok (.iadd, 1) := by decide +kernel
theorem dX8_seesName_96 : decode cX8_seesName 96 = .ok (.goto 4, 3) := by decide +kernel
theorem dX8_seesName_99 : decode cX8_seesName 99 = .ok (.iconst 0, 1) := by decide +kernel
theorem dX8_seesName_100 : decode cX8_seesName 100 = .ok (.ior, 1) := by decide +kernel
theorem dX8_seesName_101 : decode cX8_seesName 101 = .ok (.putfield 120, 3) := by decide +kernel
theorem dX8_seesName_104 : decode cX8_seesName 104 = .ok (.iinc 1 1, 3) := by decide +kernel
theorem dX8_seesName_107 : decode cX8_seesName 107 = .ok (.goto (-60), 3) := by decide +kernel
theorem dX8_seesName_110 : decode cX8_seesName 110 = .ok (.return_, 1) := by decide +kernel
theorem dX8_found_0 : decode cX8_found 0 = .ok (.iconst 0, 1) := by decide +kernel
theorem dX8_found_1 : decode cX8_found 1 = .ok (.istore_n 2, 1) := by decide +kernel
theorem dX8_found_2 : decode cX8_found 2 = .ok (.iload_n 2, 1) := by decide +kernel
theorem dX8_found_3 : decode cX8_found 3 = .ok (.aload_n 0, 1) := by decide +kernel
theorem dX8_found_4 : decode cX8_found 4 = .ok (.bipush 62, 2) := by decide +kernel
theorem dX8_found_6 : decode cX8_found 6 = .ok (.iaload, 1) := by decide +kernel
theorem dX8_found_7 : decode cX8_found 7 = .ok (.if_icmp .ge 20, 3) := by decide +kernel
theorem dX8_found_10 : decode cX8_found 10 = .ok (.aload_n 0, 1) := by decide +kernel
theorem dX8_found_11 : decode cX8_found 11 = .ok (.iconst 0, 1) := by decide +kernel
theorem dX8_found_12 : decode cX8_found 12 = .ok (.iload_n 2, 1) := by decide +kernel
theorem dX8_found_13 : decode cX8_found 13 = .ok (.iadd, 1) := by decide +kernel
theorem dX8_found_14 : decode cX8_found 14 = .ok (.iaload, 1) := by decide +kernel
theorem dX8_found_15 : decode cX8_found 15 = .ok (.iload_n 1, 1) := by decide +kernel
theorem dX8_found_16 : decode cX8_found 16 = .ok (.if_icmp .ne 5, 3) := by decide +kernel
theorem dX8_found_19 : decode cX8_found 19 = .ok (.iload_n 2, 1) := by decide +kernel
theorem dX8_found_20 : decode cX8_found 20 = .ok (.ireturn, 1) := by decide +kernel
theorem dX8_found_21 : decode cX8_found 21 = .ok (.iinc 2 1, 3) := by decide +kernel
theorem dX8_found_24 : decode cX8_found 24 = .ok (.goto (-22), 3) := by decide +kernel
theorem dX8_found_27 : decode cX8_found 27 = .ok (.iconst (-1), 1) := by decide +kernel
theorem dX8_found_28 : decode cX8_found 28 = .ok (.ireturn, 1) := by decide +kernel
theorem dX8_station_0 : decode cX8_station 0 = .ok (.aload_n 0, 1) := by decide +kernel
theorem dX8_station_1 : decode cX8_station 1 = .ok (.invokevirtual 123, 3) := by decide +kernel
theorem dX8_station_4 : decode cX8_station 4 = .ok (.aload_n 0, 1) := by decide +kernel
theorem dX8_station_5 : decode cX8_station 5 = .ok (.getfield 104, 3) := by decide +kernel
theorem dX8_station_8 : decode cX8_station 8 = .ok (.ifCond .ne 17, 3) := by decide +kernel
theorem dX8_station_11 : decode cX8_station 11 = .ok (.aload_n 0, 1) := by decide +kernel
theorem dX8_station_12 : decode cX8_station 12 = .ok (.getfield 16, 3) := by decide +kernel
theorem dX8_station_15 : decode cX8_station 15 = .ok (.aload_n 0, 1) := by decide +kernel
theorem dX8_station_16 : decode cX8_station 16 = .ok (.getfield 120, 3) := by decide +kernel
theorem dX8_station_19 : decode cX8_station 19 = .ok (.invokestatic 126, 3) := by decide +kernel
theorem dX8_station_22 : decode cX8_station 22 = .ok (.goto 4, 3) := by decide +kernel
theorem dX8_station_25 : decode cX8_station 25 = .ok (.iconst 0, 1) := by decide +kernel
theorem dX8_station_26 : decode cX8_station 26 = .ok (.istore_n 2, 1) := by decide +kernel
theorem dX8_station_27 : decode cX8_station 27 = .ok (.aload_n 0, 1) := by decide +kernel
theorem dX8_station_28 : decode cX8_station 28 = .ok (.iload_n 2, 1) := by decide +kernel
theorem dX8_station_29 : decode cX8_station 29 = .ok (.iconst (-1), 1) := by decide +kernel
theorem dX8_station_30 : decode cX8_station 30 = .ok (.if_icmp .eq 8, 3) := by decide +kernel
theorem dX8_station_33 : decode cX8_station 33 = .ok (.iload_n 2, 1) := by decide +kernel
theorem dX8_station_34 : decode cX8_station 34 = .ok (.iload_n 1, 1) := by decide +kernel
theorem dX8_station_35 : decode cX8_station 35 = .ok (.if_icmp .ne 7, 3) := by decide +kernel
theorem dX8_station_38 : decode cX8_station 38 = .ok (.iconst 1, 1) := by decide +kernel
theorem dX8_station_39 : decode cX8_station 39 = .ok (.goto 4, 3) := by decide +kernel
theorem dX8_station_42 : decode cX8_station 42 = .ok (.iconst 0, 1) := by decide +kernel
theorem dX8_station_43 : decode cX8_station 43 = .ok (.bipush (-13), 2) := by decide +kernel
theorem dX8_station_45 : decode cX8_station 45 = .ok (.invokevirtual 113, 3) := by decide +kernel
theorem dX8_station_48 : decode cX8_station 48 = .ok (.aload_n 0, 1) := by decide +kernel
theorem dX8_station_49 : decode cX8_station 49 = .ok (.invokevirtual 117, 3) := by decide +kernel
theorem dX8_station_52 : decode cX8_station 52 = .ok (.aload_n 0, 1) := by decide +kernel
theorem dX8_station_53 : decode cX8_station 53 = .ok (.getfield 104, 3) := by decide +kernel
theorem dX8_station_56 : decode cX8_station 56 = .ok (.ifCond .ne 7, 3) := by decide +kernel
theorem dX8_station_59 : decode cX8_station 59 = .ok (.iload_n 2, 1) := by decide +kernel
theorem dX8_station_60 : decode cX8_station 60 = .ok (.goto 4, 3) := by decide +kernel
theorem dX8_station_63 : decode cX8_station 63 = .ok (.iconst 0, 1) := by decide +kernel
theorem dX8_station_64 : decode cX8_station 64 = .ok (.ireturn, 1) := by decide +kernel
theorem dX8_readStation_0 : decode cX8_readStation 0 = .ok (.aload_n 0, 1) := by decide +kernel
theorem dX8_readStation_1 : decode cX8_readStation 1 = .ok (.aload_n 0, 1) := by decide +kernel
theorem dX8_readStation_2 : decode cX8_readStation 2 = .ok (.getfield 16, 3) := by decide +kernel
theorem dX8_readStation_5 : decode cX8_readStation 5 = .ok (.bipush 62, 2) := by decide +kernel
theorem dX8_readStation_7 : decode cX8_readStation 7 = .ok (.iaload, 1) := by decide +kernel
theorem dX8_readStation_8 : decode cX8_readStation 8 = .ok (.bipush 6, 2) := by decide +kernel
theorem dX8_readStation_10 : decode cX8_readStation 10 = .ok (.if_icmp .ne 7, 3) := by decide +kernel
theorem dX8_readStation_13 : decode cX8_readStation 13 = .ok (.iconst 1, 1) := by decide +kernel
theorem dX8_readStation_14 : decode cX8_readStation 14 = .ok (.goto 4, 3) := by decide +kernel
theorem dX8_readStation_17 : decode cX8_readStation 17 = .ok (.iconst 0, 1) := by decide +kernel
theorem dX8_readStation_18 : decode cX8_readStation 18 = .ok (.bipush (-16), 2) := by decide +kernel
theorem dX8_readStation_20 : decode cX8_readStation 20 = .ok (.invokevirtual 113, 3) := by decide +kernel
theorem dX8_readStation_23 : decode cX8_readStation 23 = .ok (.aload_n 0, 1) := by decide +kernel
theorem dX8_readStation_24 : decode cX8_readStation 24 = .ok (.invokevirtual 117, 3) := by decide +kernel
theorem dX8_readStation_27 : decode cX8_readStation 27 = .ok (.aload_n 0, 1) := by decide +kernel
theorem dX8_readStation_28 : decode cX8_readStation 28 = .ok (.invokevirtual 123, 3) := by decide +kernel
theorem dX8_readStation_31 : decode cX8_readStation 31 = .ok (.aload_n 0, 1) := by decide +kernel
theorem dX8_readStation_32 : decode cX8_readStation 32 = .ok (.aload_n 0, 1) := by decide +kernel
theorem dX8_readStation_33 : decode cX8_readStation 33 = .ok (.getfield 104, 3) := by decide +kernel
theorem dX8_readStation_36 : decode cX8_readStation 36 = .ok (.ifCond .ne 22, 3) := by decide +kernel
theorem dX8_readStation_39 : decode cX8_readStation 39 = .ok (.aload_n 0, 1) := by decide +kernel
theorem dX8_readStation_40 : decode cX8_readStation 40 = .ok (.getfield 16, 3) := by decide +kernel
theorem dX8_readStation_43 : decode cX8_readStation 43 = .ok (.aload_n 0, 1) := by decide +kernel
theorem dX8_readStation_44 : decode cX8_readStation 44 = .ok (.getfield 120, 3) := by decide +kernel
theorem dX8_readStation_47 : decode cX8_readStation 47 = .ok (.invokestatic 126, 3) := by decide +kernel
theorem dX8_readStation_50 : decode cX8_readStation 50 = .ok (.iconst (-1), 1) := by decide +kernel
theorem dX8_readStation_51 : decode cX8_readStation 51 = .ok (.if_icmp .eq 7, 3) := by decide +kernel
theorem dX8_readStation_54 : decode cX8_readStation 54 = .ok (.iconst 1, 1) := by decide +kernel
theorem dX8_readStation_55 : decode cX8_readStation 55 = .ok (.goto 4, 3) := by decide +kernel
theorem dX8_readStation_58 : decode cX8_readStation 58 = .ok (.iconst 0, 1) := by decide +kernel
theorem dX8_readStation_59 : decode cX8_readStation 59 = .ok (.bipush (-14), 2) := by decide +kernel
theorem dX8_readStation_61 : decode cX8_readStation 61 = .ok (.invokevirtual 113, 3) := by decide +kernel
theorem dX8_readStation_64 : decode cX8_readStation 64 = .ok (.aload_n 0, 1) := by decide +kernel
theorem dX8_readStation_65 : decode cX8_readStation 65 = .ok (.invokevirtual 117, 3) := by decide +kernel
theorem dX8_readStation_68 : decode cX8_readStation 68 = .ok (.aload_n 0, 1) := by decide +kernel
theorem dX8_readStation_69 : decode cX8_readStation 69 = .ok (.iconst 0, 1) := by decide +kernel
theorem dX8_readStation_70 : decode cX8_readStation 70 = .ok (.sipush 5000, 3) := by decide +kernel
theorem dX8_readStation_73 : decode cX8_readStation 73 = .ok (.invokevirtual 130, 3) := by decide +kernel
theorem dX8_readStation_76 : decode cX8_readStation 76 = .ok (.istore_n 1, 1) := by decide +kernel
theorem dX8_readStation_77 : decode cX8_readStation 77 = .ok (.aload_n 0, 1) := by decide +kernel
theorem dX8_readStation_78 : decode cX8_readStation 78 = .ok (.getfield 104, 3) := by decide +kernel
theorem dX8_readStation_81 : decode cX8_readStation 81 = .ok (.ifCond .ne 15, 3) := by decide +kernel
theorem dX8_readStation_84 : decode cX8_readStation 84 = .ok (.aload_n 0, 1) := by decide +kernel
theorem dX8_readStation_85 : decode cX8_readStation 85 = .ok (.getfield 76, 3) := by decide +kernel
theorem dX8_readStation_88 : decode cX8_readStation 88 = .ok (.iconst 3, 1) := by decide +kernel
theorem dX8_readStation_89 : decode cX8_readStation 89 = .ok (.if_icmp .ne 7, 3) := by decide +kernel
theorem dX8_readStation_92 : decode cX8_readStation 92 = .ok (.iconst 1, 1) := by decide +kernel
theorem dX8_readStation_93 : decode cX8_readStation 93 = .ok (.goto 4, 3) := by decide +kernel
theorem dX8_readStation_96 : decode cX8_readStation 96 = .ok (.iconst 0, 1) := by decide +kernel
theorem dX8_readStation_97 : decode cX8_readStation 97 = .ok (.istore_n 2, 1) := by decide +kernel
theorem dX8_readStation_98 : decode cX8_readStation 98 = .ok (.iload_n 2, 1) := by decide +kernel
theorem dX8_readStation_99 : decode cX8_readStation 99 = .ok (.ifCond .eq 7, 3) := by decide +kernel
theorem dX8_readStation_102 : decode cX8_readStation 102 = .ok (.aload_n 0, 1) := by decide +kernel
theorem dX8_readStation_103 : decode cX8_readStation 103 = .ok (.invokevirtual 117, 3) := by decide +kernel
theorem dX8_readStation_106 : decode cX8_readStation 106 = .ok (.aload_n 0, 1) := by decide +kernel
theorem dX8_readStation_107 : decode cX8_readStation 107 = .ok (.iconst 0, 1) := by decide +kernel
theorem dX8_readStation_108 : decode cX8_readStation 108 = .ok (.bipush 50, 2) := by decide +kernel
theorem dX8_readStation_110 : decode cX8_readStation 110 = .ok (.invokevirtual 130, 3) := by decide +kernel
theorem dX8_readStation_113 : decode cX8_readStation 113 = .ok (.istore_n 3, 1) := by decide +kernel
theorem dX8_readStation_114 : decode cX8_readStation 114 = .ok (.aload_n 0, 1) := by decide +kernel
theorem dX8_readStation_115 : decode cX8_readStation 115 = .ok (.iconst 0, 1) := by decide +kernel
theorem dX8_readStation_116 : decode cX8_readStation 116 = .ok (.sipush 999, 3) := by decide +kernel
theorem dX8_readStation_119 : decode cX8_readStation 119 = .ok (.invokevirtual 130, 3) := by decide +kernel
theorem dX8_readStation_122 : decode cX8_readStation 122 = .ok (.istore 4, 2) := by decide +kernel
theorem dX8_readStation_124 : decode cX8_readStation 124 = .ok (.aload_n 0, 1) := by decide +kernel
theorem dX8_readStation_125 : decode cX8_readStation 125 = .ok (.iload 4, 2) := by decide +kernel
theorem dX8_readStation_127 : decode cX8_readStation 127 = .ok (.sipush 999, 3) := by decide +kernel
theorem dX8_readStation_130 : decode cX8_readStation 130 = .ok (.invokevirtual 130, 3) := by decide +kernel
theorem dX8_readStation_133 : decode cX8_readStation 133 = .ok (.istore 5, 2) := by decide +kernel
theorem dX8_readStation_135 : decode cX8_readStation 135 = .ok (.aload_n 0, 1) := by decide +kernel
theorem dX8_readStation_136 : decode cX8_readStation 136 = .ok (.getfield 104, 3) := by decide +kernel
theorem dX8_readStation_139 : decode cX8_readStation 139 = .ok (.ifCond .eq 4, 3) := by decide +kernel
theorem dX8_readStation_142 : decode cX8_readStation 142 = .ok (.return_, 1) := by decide +kernel
theorem dX8_readStation_143 : decode cX8_readStation 143 = .ok (.aload_n 0, 1) := by decide +kernel
theorem dX8_readStation_144 : decode cX8_readStation 144 = .ok (.getfield 16, 3) := by decide +kernel
theorem dX8_readStation_147 : decode cX8_readStation 147 = .ok (.bipush 62, 2) := by decide +kernel
theorem dX8_readStation_149 : decode cX8_readStation 149 = .ok (.iaload, 1) := by decide +kernel
theorem dX8_readStation_150 : decode cX8_readStation 150 = .ok (.istore 6, 2) := by decide +kernel
theorem dX8_readStation_152 : decode cX8_readStation 152 = .ok (.aload_n 0, 1) := by decide +kernel
theorem dX8_readStation_153 : decode cX8_readStation 153 = .ok (.getfield 16, 3) := by decide +kernel
theorem dX8_readStation_156 : decode cX8_readStation 156 = .ok (.iconst 0, 1) := by decide +kernel
theorem dX8_readStation_157 : decode cX8_readStation 157 = .ok (.iload 6, 2) := by decide +kernel
theorem dX8_readStation_159 : decode cX8_readStation 159 = .ok (.iadd, 1) := by decide +kernel
theorem dX8_readStation_160 : decode cX8_readStation 160 = .ok (.aload_n 0, 1) := by decide +kernel
theorem dX8_readStation_161 : decode cX8_readStation 161 = .ok (.getfield 120, 3) := by decide +kernel
theorem dX8_readStation_164 : decode cX8_readStation 164 = .ok (.iastore, 1) := by decide +kernel
theorem dX8_readStation_165 : decode cX8_readStation 165 = .ok (.aload_n 0, 1) := by decide +kernel
theorem dX8_readStation_166 : decode cX8_readStation 166 = .ok (.getfield 16, 3) := by decide +kernel
theorem dX8_readStation_169 : decode cX8_readStation 169 = .ok (.bipush 6, 2) := by decide +kernel
theorem dX8_readStation_171 : decode cX8_readStation 171 = .ok (.iload 6, 2) := by decide +kernel
theorem dX8_readStation_173 : decode cX8_readStation 173 = .ok (.iadd, 1) := by decide +kernel
theorem dX8_readStation_174 : decode cX8_readStation 174 = .ok (.iload_n 1, 1) := by decide +kernel
theorem dX8_readStation_175 : decode cX8_readStation 175 = .ok (.iastore, 1) := by decide +kernel
theorem dX8_readStation_176 : decode cX8_readStation 176 = .ok (.aload_n 0, 1) := by decide +kernel
theorem dX8_readStation_177 : decode cX8_readStation 177 = .ok (.getfield 16, 3) := by decide +kernel
theorem dX8_readStation_180 : decode cX8_readStation 180 = .ok (.bipush 12, 2) := by decide +kernel
theorem dX8_readStation_182 : decode cX8_readStation 182 = .ok (.iload 6, 2) := by decide +kernel
theorem dX8_readStation_184 : decode cX8_readStation 184 = .ok (.iadd, 1) := by decide +kernel
theorem dX8_readStation_185 : decode cX8_readStation 185 = .ok (.iload_n 2, 1) := by decide +kernel
theorem dX8_readStation_186 : decode cX8_readStation 186 = .ok (.ifCond .eq 8, 3) := by decide +kernel
theorem dX8_readStation_189 : decode cX8_readStation 189 = .ok (.iload_n 3, 1) := by decide +kernel
theorem dX8_readStation_190 : decode cX8_readStation 190 = .ok (.ineg, 1) := by decide +kernel
theorem dX8_readStation_191 : decode cX8_readStation 191 = .ok (.goto 4, 3) := by decide +kernel
theorem dX8_readStation_194 : decode cX8_readStation 194 = .ok (.iload_n 3, 1) := by decide +kernel
theorem dX8_readStation_195 : decode cX8_readStation 195 = .ok (.iastore, 1) := by decide +kernel
theorem dX8_readStation_196 : decode cX8_readStation 196 = .ok (.aload_n 0, 1) := by decide +kernel
theorem dX8_readStation_197 : decode cX8_readStation 197 = .ok (.getfield 16, 3) := by decide +kernel
theorem dX8_readStation_200 : decode cX8_readStation 200 = .ok (.bipush 18, 2) := by decide +kernel
theorem dX8_readStation_202 : decode cX8_readStation 202 = .ok (.iload 6, 2) := by decide +kernel
theorem dX8_readStation_204 : decode cX8_readStation 204 = .ok (.iadd, 1) := by decide +kernel
theorem dX8_readStation_205 : decode cX8_readStation 205 = .ok (.iload 4, 2) := by decide +kernel
theorem dX8_readStation_207 : decode cX8_readStation 207 = .ok (.iastore, 1) := by decide +kernel
theorem dX8_readStation_208 : decode cX8_readStation 208 = .ok (.aload_n 0, 1) := by decide +kernel
theorem dX8_readStation_209 : decode cX8_readStation 209 = .ok (.getfield 16, 3) := by decide +kernel
theorem dX8_readStation_212 : decode cX8_readStation 212 = .ok (.bipush 24, 2) := by decide +kernel
theorem dX8_readStation_214 : decode cX8_readStation 214 = .ok (.iload 6, 2) := by decide +kernel
theorem dX8_readStation_216 : decode cX8_readStation 216 = .ok (.iadd, 1) := by decide +kernel
theorem dX8_readStation_217 : decode cX8_readStation 217 = .ok (.iload 5, 2) := by decide +kernel
theorem dX8_readStation_219 : decode cX8_readStation 219 = .ok (.iastore, 1) := by decide +kernel
theorem dX8_readStation_220 : decode cX8_readStation 220 = .ok (.aload_n 0, 1) := by decide +kernel
theorem dX8_readStation_221 : decode cX8_readStation 221 = .ok (.getfield 19, 3) := by decide +kernel
theorem dX8_readStation_224 : decode cX8_readStation 224 = .ok (.bipush 8, 2) := by decide +kernel
theorem dX8_readStation_226 : decode cX8_readStation 226 = .ok (.iload 6, 2) := by decide +kernel
theorem dX8_readStation_228 : decode cX8_readStation 228 = .ok (.iadd, 1) := by decide +kernel
theorem dX8_readStation_229 : decode cX8_readStation 229 = .ok (.iload 4, 2) := by decide +kernel
theorem dX8_readStation_231 : decode cX8_readStation 231 = .ok (.iastore, 1) := by decide +kernel
theorem dX8_readStation_232 : decode cX8_readStation 232 = .ok (.aload_n 0, 1) := by decide +kernel
theorem dX8_readStation_233 : decode cX8_readStation 233 = .ok (.getfield 16, 3) := by decide +kernel
theorem dX8_readStation_236 : decode cX8_readStation 236 = .ok (.bipush 62, 2) := by decide +kernel
theorem dX8_readStation_238 : decode cX8_readStation 238 = .ok (.dup2, 1) := by decide +kernel
theorem dX8_readStation_239 : decode cX8_readStation 239 = .ok (.iaload, 1) := by decide +kernel
theorem dX8_readStation_240 : decode cX8_readStation 240 = .ok (.iconst 1, 1) := by decide +kernel
theorem dX8_readStation_241 : decode cX8_readStation 241 = .ok (.iadd, 1) := by decide +kernel
theorem dX8_readStation_242 : decode cX8_readStation 242 = .ok (.iastore, 1) := by decide +kernel
theorem dX8_readStation_243 : decode cX8_readStation 243 = .ok (.return_, 1) := by decide +kernel
theorem dX8_readRain_0 : decode cX8_readRain 0 = .ok (.aload_n 0, 1) := by decide +kernel
theorem dX8_readRain_1 : decode cX8_readRain 1 = .ok (.aload_n 0, 1) := by decide +kernel
theorem dX8_readRain_2 : decode cX8_readRain 2 = .ok (.getfield 16, 3) := by decide +kernel
theorem dX8_readRain_5 : decode cX8_readRain 5 = .ok (.bipush 63, 2) := by decide +kernel
theorem dX8_readRain_7 : decode cX8_readRain 7 = .ok (.iaload, 1) := by decide +kernel
theorem dX8_readRain_8 : decode cX8_readRain 8 = .ok (.bipush 8, 2) := by decide +kernel
theorem dX8_readRain_10 : decode cX8_readRain 10 = .ok (.if_icmp .ne 7, 3) := by decide +kernel
theorem dX8_readRain_13 : decode cX8_readRain 13 = .ok (.iconst 1, 1) := by decide +kernel
theorem dX8_readRain_14 : decode cX8_readRain 14 = .ok (.goto 4, 3) := by decide +kernel
theorem dX8_readRain_17 : decode cX8_readRain 17 = .ok (.iconst 0, 1) := by decide +kernel
theorem dX8_readRain_18 : decode cX8_readRain 18 = .ok (.bipush (-16), 2) := by decide +kernel
theorem dX8_readRain_20 : decode cX8_readRain 20 = .ok (.invokevirtual 113, 3) := by decide +kernel
theorem dX8_readRain_23 : decode cX8_readRain 23 = .ok (.aload_n 0, 1) := by decide +kernel
theorem dX8_readRain_24 : decode cX8_readRain 24 = .ok (.invokevirtual 117, 3) := by decide +kernel
theorem dX8_readRain_27 : decode cX8_readRain 27 = .ok (.aload_n 0, 1) := by decide +kernel
theorem dX8_readRain_28 : decode cX8_readRain 28 = .ok (.iconst (-1), 1) := by decide +kernel
theorem dX8_readRain_29 : decode cX8_readRain 29 = .ok (.invokevirtual 134, 3) := by decide +kernel
theorem dX8_readRain_32 : decode cX8_readRain 32 = .ok (.istore_n 1, 1) := by decide +kernel
theorem dX8_readRain_33 : decode cX8_readRain 33 = .ok (.aload_n 0, 1) := by decide +kernel
theorem dX8_readRain_34 : decode cX8_readRain 34 = .ok (.iconst 0, 1) := by decide +kernel
theorem dX8_readRain_35 : decode cX8_readRain 35 = .ok (.sipush 9999, 3) := by decide +kernel
theorem dX8_readRain_38 : decode cX8_readRain 38 = .ok (.invokevirtual 130, 3) := by decide +kernel
theorem dX8_readRain_41 : decode cX8_readRain 41 = .ok (.istore_n 2, 1) := by decide +kernel
theorem dX8_readRain_42 : decode cX8_readRain 42 = .ok (.aload_n 0, 1) := by decide +kernel
theorem dX8_readRain_43 : decode cX8_readRain 43 = .ok (.iload_n 2, 1) := by decide +kernel
theorem dX8_readRain_44 : decode cX8_readRain 44 = .ok (.sipush 9999, 3) := by decide +kernel
theorem dX8_readRain_47 : decode cX8_readRain 47 = .ok (.invokevirtual 130, 3) := by decide +kernel
theorem dX8_readRain_50 : decode cX8_readRain 50 = .ok (.istore_n 3, 1) := by decide +kernel
theorem dX8_readRain_51 : decode cX8_readRain 51 = .ok (.aload_n 0, 1) := by decide +kernel
theorem dX8_readRain_52 : decode cX8_readRain 52 = .ok (.iconst 1, 1) := by decide +kernel
theorem dX8_readRain_53 : decode cX8_readRain 53 = .ok (.sipush 400, 3) := by decide +kernel
theorem dX8_readRain_56 : decode cX8_readRain 56 = .ok (.invokevirtual 130, 3) := by decide +kernel
theorem dX8_readRain_59 : decode cX8_readRain 59 = .ok (.istore 4, 2) := by decide +kernel
theorem dX8_readRain_61 : decode cX8_readRain 61 = .ok (.aload_n 0, 1) := by decide +kernel
theorem dX8_readRain_62 : decode cX8_readRain 62 = .ok (.getfield 104, 3) := by decide +kernel
theorem dX8_readRain_65 : decode cX8_readRain 65 = .ok (.ifCond .eq 4, 3) := by decide +kernel
theorem dX8_readRain_68 : decode cX8_readRain 68 = .ok (.return_, 1) := by decide +kernel
theorem dX8_readRain_69 : decode cX8_readRain 69 = .ok (.aload_n 0, 1) := by decide +kernel
theorem dX8_readRain_70 : decode cX8_readRain 70 = .ok (.getfield 16, 3) := by decide +kernel
theorem dX8_readRain_73 : decode cX8_readRain 73 = .ok (.bipush 63, 2) := by decide +kernel
theorem dX8_readRain_75 : decode cX8_readRain 75 = .ok (.iaload, 1) := by decide +kernel
theorem dX8_readRain_76 : decode cX8_readRain 76 = .ok (.istore 5, 2) := by decide +kernel
theorem dX8_readRain_78 : decode cX8_readRain 78 = .ok (.aload_n 0, 1) := by decide +kernel
theorem dX8_readRain_79 : decode cX8_readRain 79 = .ok (.getfield 16, 3) := by decide +kernel
theorem dX8_readRain_82 : decode cX8_readRain 82 = .ok (.bipush 30, 2) := by decide +kernel
theorem dX8_readRain_84 : decode cX8_readRain 84 = .ok (.iload 5, 2) := by decide +kernel
theorem dX8_readRain_86 : decode cX8_readRain 86 = .ok (.iadd, 1) := by decide +kernel
theorem dX8_readRain_87 : decode cX8_readRain 87 = .ok (.iload_n 1, 1) := by decide +kernel
theorem dX8_readRain_88 : decode cX8_readRain 88 = .ok (.iastore, 1) := by decide +kernel
theorem dX8_readRain_89 : decode cX8_readRain 89 = .ok (.aload_n 0, 1) := by decide +kernel
theorem dX8_readRain_90 : decode cX8_readRain 90 = .ok (.getfield 16, 3) := by decide +kernel
theorem dX8_readRain_93 : decode cX8_readRain 93 = .ok (.bipush 38, 2) := by decide +kernel
theorem dX8_readRain_95 : decode cX8_readRain 95 = .ok (.iload 5, 2) := by decide +kernel
theorem dX8_readRain_97 : decode cX8_readRain 97 = .ok (.iadd, 1) := by decide +kernel
theorem dX8_readRain_98 : decode cX8_readRain 98 = .ok (.iload_n 2, 1) := by decide +kernel
theorem dX8_readRain_99 : decode cX8_readRain 99 = .ok (.iastore, 1) := by decide +kernel
theorem dX8_readRain_100 : decode cX8_readRain 100 = .ok (.aload_n 0, 1) := by decide +kernel
theorem dX8_readRain_101 : decode cX8_readRain 101 = .ok (.getfield 16, 3) := by decide +kernel
theorem dX8_readRain_104 : decode cX8_readRain 104 = .ok (.bipush 46, 2) := by decide +kernel
theorem dX8_readRain_106 : decode cX8_readRain 106 = .ok (.iload 5, 2) := by decide +kernel
theorem dX8_readRain_108 : decode cX8_readRain 108 = .ok (.iadd, 1) := by decide +kernel
theorem dX8_readRain_109 : decode cX8_readRain 109 = .ok (.iload_n 3, 1) := by decide +kernel
theorem dX8_readRain_110 : decode cX8_readRain 110 = .ok (.iastore, 1) := by decide +kernel
theorem dX8_readRain_111 : decode cX8_readRain 111 = .ok (.aload_n 0, 1) := by decide +kernel
theorem dX8_readRain_112 : decode cX8_readRain 112 = .ok (.getfield 16, 3) := by decide +kernel
theorem dX8_readRain_115 : decode cX8_readRain 115 = .ok (.bipush 54, 2) := by decide +kernel
theorem dX8_readRain_117 : decode cX8_readRain 117 = .ok (.iload 5, 2) := by decide +kernel
theorem dX8_readRain_119 : decode cX8_readRain 119 = .ok (.iadd, 1) := by decide +kernel
theorem dX8_readRain_120 : decode cX8_readRain 120 = .ok (.iload 4, 2) := by decide +kernel
theorem dX8_readRain_122 : decode cX8_readRain 122 = .ok (.iastore, 1) := by decide +kernel
theorem dX8_readRain_123 : decode cX8_readRain 123 = .ok (.aload_n 0, 1) := by decide +kernel
theorem dX8_readRain_124 : decode cX8_readRain 124 = .ok (.getfield 16, 3) := by decide +kernel
theorem dX8_readRain_127 : decode cX8_readRain 127 = .ok (.bipush 63, 2) := by decide +kernel
theorem dX8_readRain_129 : decode cX8_readRain 129 = .ok (.dup2, 1) := by decide +kernel
theorem dX8_readRain_130 : decode cX8_readRain 130 = .ok (.iaload, 1) := by decide +kernel
theorem dX8_readRain_131 : decode cX8_readRain 131 = .ok (.iconst 1, 1) := by decide +kernel
theorem dX8_readRain_132 : decode cX8_readRain 132 = .ok (.iadd, 1) := by decide +kernel
theorem dX8_readRain_133 : decode cX8_readRain 133 = .ok (.iastore, 1) := by decide +kernel
theorem dX8_readRain_134 : decode cX8_readRain 134 = .ok (.return_, 1) := by decide +kernel
theorem dX8_readCall_0 : decode cX8_readCall 0 = .ok (.aload_n 0, 1) := by decide +kernel
theorem dX8_readCall_1 : decode cX8_readCall 1 = .ok (.aload_n 0, 1) := by decide +kernel
theorem dX8_readCall_2 : decode cX8_readCall 2 = .ok (.getfield 19, 3) := by decide +kernel
theorem dX8_readCall_5 : decode cX8_readCall 5 = .ok (.sipush 404, 3) := by decide +kernel
theorem dX8_readCall_8 : decode cX8_readCall 8 = .ok (.iaload, 1) := by decide +kernel
theorem dX8_readCall_9 : decode cX8_readCall 9 = .ok (.bipush 16, 2) := by decide +kernel
theorem dX8_readCall_11 : decode cX8_readCall 11 = .ok (.if_icmp .ne 7, 3) := by decide +kernel
theorem dX8_readCall_14 : decode cX8_readCall 14 = .ok (.iconst 1, 1) := by decide +kernel
theorem dX8_readCall_15 : decode cX8_readCall 15 = .ok (.goto 4, 3) := by decide +kernel
theorem dX8_readCall_18 : decode cX8_readCall 18 = .ok (.iconst 0, 1) := by decide +kernel
theorem dX8_readCall_19 : decode cX8_readCall 19 = .ok (.bipush (-16), 2) := by decide +kernel
theorem dX8_readCall_21 : decode cX8_readCall 21 = .ok (.invokevirtual 113, 3) := by decide +kernel
theorem dX8_readCall_24 : decode cX8_readCall 24 = .ok (.aload_n 0, 1) := by decide +kernel
theorem dX8_readCall_25 : decode cX8_readCall 25 = .ok (.invokevirtual 117, 3) := by decide +kernel
theorem dX8_readCall_28 : decode cX8_readCall 28 = .ok (.aload_n 0, 1) := by decide +kernel
theorem dX8_readCall_29 : decode cX8_readCall 29 = .ok (.iconst (-1), 1) := by decide +kernel
theorem dX8_readCall_30 : decode cX8_readCall 30 = .ok (.invokevirtual 134, 3) := by decide +kernel
theorem dX8_readCall_33 : decode cX8_readCall 33 = .ok (.istore_n 1, 1) := by decide +kernel
theorem dX8_readCall_34 : decode cX8_readCall 34 = .ok (.aload_n 0, 1) := by decide +kernel
theorem dX8_readCall_35 : decode cX8_readCall 35 = .ok (.aload_n 0, 1) := by decide +kernel
theorem dX8_readCall_36 : decode cX8_readCall 36 = .ok (.getfield 104, 3) := by decide +kernel
theorem dX8_readCall_39 : decode cX8_readCall 39 = .ok (.ifCond .ne 7, 3) := by decide +kernel
theorem dX8_readCall_42 : decode cX8_readCall 42 = .ok (.iload_n 1, 1) := by decide +kernel
theorem dX8_readCall_43 : decode cX8_readCall 43 = .ok (.goto 4, 3) := by decide +kernel
theorem dX8_readCall_46 : decode cX8_readCall 46 = .ok (.iconst (-1), 1) := by decide +kernel
theorem dX8_readCall_47 : decode cX8_readCall 47 = .ok (.invokevirtual 134, 3) := by decide +kernel
theorem dX8_readCall_50 : decode cX8_readCall 50 = .ok (.istore_n 2, 1) := by decide +kernel
theorem dX8_readCall_51 : decode cX8_readCall 51 = .ok (.aload_n 0, 1) := by decide +kernel
theorem dX8_readCall_52 : decode cX8_readCall 52 = .ok (.iconst 0, 1) := by decide +kernel
theorem dX8_readCall_53 : decode cX8_readCall 53 = .ok (.bipush 9, 2) := by decide +kernel
theorem dX8_readCall_55 : decode cX8_readCall 55 = .ok (.invokevirtual 130, 3) := by decide +kernel
theorem dX8_readCall_58 : decode cX8_readCall 58 = .ok (.istore_n 3, 1) := by decide +kernel
theorem dX8_readCall_59 : decode cX8_readCall 59 = .ok (.aload_n 0, 1) := by decide +kernel
theorem dX8_readCall_60 : decode cX8_readCall 60 = .ok (.iconst 1, 1) := by decide +kernel
theorem dX8_readCall_61 : decode cX8_readCall 61 = .ok (.sipush 2000, 3) := by decide +kernel
theorem dX8_readCall_64 : decode cX8_readCall 64 = .ok (.invokevirtual 130, 3) := by decide +kernel
theorem dX8_readCall_67 : decode cX8_readCall 67 = .ok (.istore 4, 2) := by decide +kernel
theorem dX8_readCall_69 : decode cX8_readCall 69 = .ok (.aload_n 0, 1) := by decide +kernel
theorem dX8_readCall_70 : decode cX8_readCall 70 = .ok (.iconst 1, 1) := by decide +kernel
theorem dX8_readCall_71 : decode cX8_readCall 71 = .ok (.sipush 9999, 3) := by decide +kernel
theorem dX8_readCall_74 : decode cX8_readCall 74 = .ok (.invokevirtual 130, 3) := by decide +kernel
theorem dX8_readCall_77 : decode cX8_readCall 77 = .ok (.istore 5, 2) := by decide +kernel
theorem dX8_readCall_79 : decode cX8_readCall 79 = .ok (.aload_n 0, 1) := by decide +kernel
theorem dX8_readCall_80 : decode cX8_readCall 80 = .ok (.getfield 104, 3) := by decide +kernel
theorem dX8_readCall_83 : decode cX8_readCall 83 = .ok (.ifCond .eq 4, 3) := by decide +kernel
theorem dX8_readCall_86 : decode cX8_readCall 86 = .ok (.return_, 1) := by decide +kernel
theorem dX8_readCall_87 : decode cX8_readCall 87 = .ok (.aload_n 0, 1) := by decide +kernel
theorem dX8_readCall_88 : decode cX8_readCall 88 = .ok (.aload_n 0, 1) := by decide +kernel
theorem dX8_readCall_89 : decode cX8_readCall 89 = .ok (.getfield 16, 3) := by decide +kernel
theorem dX8_readCall_92 : decode cX8_readCall 92 = .ok (.bipush 64, 2) := by decide +kernel
theorem dX8_readCall_94 : decode cX8_readCall 94 = .ok (.iaload, 1) := by decide +kernel
theorem dX8_readCall_95 : decode cX8_readCall 95 = .ok (.putfield 138, 3) := by decide +kernel
theorem dX8_readCall_98 : decode cX8_readCall 98 = .ok (.aload_n 0, 1) := by decide +kernel
theorem dX8_readCall_99 : decode cX8_readCall 99 = .ok (.iload_n 1, 1) := by decide +kernel
theorem dX8_readCall_100 : decode cX8_readCall 100 = .ok (.iload_n 2, 1) := by decide +kernel
theorem dX8_readCall_101 : decode cX8_readCall 101 = .ok (.iload_n 3, 1) := by decide +kernel
theorem dX8_readCall_102 : decode cX8_readCall 102 = .ok (.iload 4, 2) := by decide +kernel
theorem dX8_readCall_104 : decode cX8_readCall 104 = .ok (.iload 5, 2) := by decide +kernel
theorem dX8_readCall_106 : decode cX8_readCall 106 = .ok (.invokevirtual 141, 3) := by decide +kernel
theorem dX8_readCall_109 : decode cX8_readCall 109 = .ok (.istore 6, 2) := by decide +kernel
theorem dX8_readCall_111 : decode cX8_readCall 111 = .ok (.aload_n 0, 1) := by decide +kernel
theorem dX8_readCall_112 : decode cX8_readCall 112 = .ok (.iload 6, 2) := by decide +kernel
theorem dX8_readCall_114 : decode cX8_readCall 114 = .ok (.invokevirtual 145, 3) := by decide +kernel
theorem dX8_readCall_117 : decode cX8_readCall 117 = .ok (.istore 7, 2) := by decide +kernel
theorem dX8_readCall_119 : decode cX8_readCall 119 = .ok (.return_, 1) := by decide +kernel
theorem dX8_readSet_0 : decode cX8_readSet 0 = .ok (.aload_n 0, 1) := by decide +kernel
theorem dX8_readSet_1 : decode cX8_readSet 1 = .ok (.invokevirtual 117, 3) := by decide +kernel
theorem dX8_readSet_4 : decode cX8_readSet 4 = .ok (.aload_n 0, 1) := by decide +kernel
theorem dX8_readSet_5 : decode cX8_readSet 5 = .ok (.getfield 104, 3) := by decide +kernel
theorem dX8_readSet_8 : decode cX8_readSet 8 = .ok (.ifCond .ne 22, 3) := by decide +kernel
theorem dX8_readSet_11 : decode cX8_readSet 11 = .ok (.aload_n 0, 1) := by decide +kernel
theorem dX8_readSet_12 : decode cX8_readSet 12 = .ok (.getfield 76, 3) := by decide +kernel
theorem dX8_readSet_15 : decode cX8_readSet 15 = .ok (.ifCond .ne 15, 3) := by decide +kernel
theorem dX8_readSet_18 : decode cX8_readSet 18 = .ok (.aload_n 0, 1) := by decide +kernel
theorem dX8_readSet_19 : decode cX8_readSet 19 = .ok (.getfield 86, 3) := by decide +kernel
theorem dX8_readSet_22 : decode cX8_readSet 22 = .ok (.iconst 5, 1) := by decide +kernel
theorem dX8_readSet_23 : decode cX8_readSet 23 = .ok (.if_icmp .lt 7, 3) := by decide +kernel
theorem dX8_readSet_26 : decode cX8_readSet 26 = .ok (.iconst 1, 1) := by decide +kernel
theorem dX8_readSet_27 : decode cX8_readSet 27 = .ok (.goto 4, 3) := by decide +kernel
theorem dX8_readSet_30 : decode cX8_readSet 30 = .ok (.iconst 0, 1) := by decide +kernel
theorem dX8_readSet_31 : decode cX8_readSet 31 = .ok (.istore_n 1, 1) := by decide +kernel
theorem dX8_readSet_32 : decode cX8_readSet 32 = .ok (.aload_n 0, 1) := by decide +kernel
theorem dX8_readSet_33 : decode cX8_readSet 33 = .ok (.iload_n 1, 1) := by decide +kernel
theorem dX8_readSet_34 : decode cX8_readSet 34 = .ok (.ifCond .ne 7, 3) := by decide +kernel
theorem dX8_readSet_37 : decode cX8_readSet 37 = .ok (.iconst 1, 1) := by decide +kernel
theorem dX8_readSet_38 : decode cX8_readSet 38 = .ok (.goto 4, 3) := by decide +kernel
theorem dX8_readSet_41 : decode cX8_readSet 41 = .ok (.iconst 0, 1) := by decide +kernel
theorem dX8_readSet_42 : decode cX8_readSet 42 = .ok (.bipush (-11), 2) := by decide +kernel
theorem dX8_readSet_44 : decode cX8_readSet 44 = .ok (.invokevirtual 113, 3) := by decide +kernel
theorem dX8_readSet_47 : decode cX8_readSet 47 = .ok (.iload_n 1, 1) := by decide +kernel
theorem dX8_readSet_48 : decode cX8_readSet 48 = .ok (.ifCond .eq 12, 3) := by decide +kernel
theorem dX8_readSet_51 : decode cX8_readSet 51 = .ok (.aload_n 0, 1) := by decide +kernel
theorem dX8_readSet_52 : decode cX8_readSet 52 = .ok (.getfield 86, 3) := by decide +kernel
theorem dX8_readSet_55 : decode cX8_readSet 55 = .ok (.iconst 5, 1) := by decide +kernel
theorem dX8_readSet_56 : decode cX8_readSet 56 = .ok (.isub, 1) := by decide +kernel
theorem dX8_readSet_57 : decode cX8_readSet 57 = .ok (.goto 4, 3) := by decide +kernel
theorem dX8_readSet_60 : decode cX8_readSet 60 = .ok (.iconst 0, 1) := by decide +kernel
theorem dX8_readSet_61 : decode cX8_readSet 61 = .ok (.istore_n 2, 1) := by decide +kernel
theorem dX8_readSet_62 : decode cX8_readSet 62 = .ok (.aload_n 0, 1) := by decide +kernel
theorem dX8_readSet_63 : decode cX8_readSet 63 = .ok (.aload_n 0, 1) := by decide +kernel
theorem dX8_readSet_64 : decode cX8_readSet 64 = .ok (.getfield 53, 3) := by decide +kernel
theorem dX8_readSet_67 : decode cX8_readSet 67 = .ok (.iload_n 2, 1) := by decide +kernel
theorem dX8_readSet_68 : decode cX8_readSet 68 = .ok (.ishr, 1) := by decide +kernel
theorem dX8_readSet_69 : decode cX8_readSet 69 = .ok (.iconst 1, 1) := by decide +kernel
theorem dX8_readSet_70 : decode cX8_readSet 70 = .ok (.iand, 1) := by decide +kernel
theorem dX8_readSet_71 : decode cX8_readSet 71 = .ok (.iconst 1, 1) := by decide +kernel
theorem dX8_readSet_72 : decode cX8_readSet 72 = .ok (.if_icmp .ne 7, 3) := by decide +kernel
theorem dX8_readSet_75 : decode cX8_readSet 75 = .ok (.iconst 1, 1) := by decide +kernel
theorem dX8_readSet_76 : decode cX8_readSet 76 = .ok (.goto 4, 3) := by decide +kernel
theorem dX8_readSet_79 : decode cX8_readSet 79 = .ok (.iconst 0, 1) := by decide +kernel
theorem dX8_readSet_80 : decode cX8_readSet 80 = .ok (.bipush (-14), 2) := by decide +kernel
theorem dX8_readSet_82 : decode cX8_readSet 82 = .ok (.invokevirtual 113, 3) := by decide +kernel
theorem dX8_readSet_85 : decode cX8_readSet 85 = .ok (.aload_n 0, 1) := by decide +kernel
theorem dX8_readSet_86 : decode cX8_readSet 86 = .ok (.iload_n 2, 1) := by decide +kernel
theorem dX8_readSet_87 : decode cX8_readSet 87 = .ok (.iconst 3, 1) := by decide +kernel
theorem dX8_readSet_88 : decode cX8_readSet 88 = .ok (.if_icmp .gt 18, 3) := by decide +kernel
theorem dX8_readSet_91 : decode cX8_readSet 91 = .ok (.aload_n 0, 1) := by decide +kernel
theorem dX8_readSet_92 : decode cX8_readSet 92 = .ok (.getfield 19, 3) := by decide +kernel
theorem dX8_readSet_95 : decode cX8_readSet 95 = .ok (.sipush 404, 3) := by decide +kernel
theorem dX8_readSet_98 : decode cX8_readSet 98 = .ok (.iaload, 1) := by decide +kernel
theorem dX8_readSet_99 : decode cX8_readSet 99 = .ok (.ifCond .le 7, 3) := by decide +kernel
theorem dX8_readSet_102 : decode cX8_readSet 102 = .ok (.iconst 1, 1) := by decide +kernel
theorem dX8_readSet_103 : decode cX8_readSet 103 = .ok (.goto 4, 3) := by decide +kernel
theorem dX8_readSet_106 : decode cX8_readSet 106 = .ok (.iconst 0, 1) := by decide +kernel
theorem dX8_readSet_107 : decode cX8_readSet 107 = .ok (.bipush (-15), 2) := by decide +kernel
theorem dX8_readSet_109 : decode cX8_readSet 109 = .ok (.invokevirtual 113, 3) := by decide +kernel
theorem dX8_readSet_112 : decode cX8_readSet 112 = .ok (.aload_n 0, 1) := by decide +kernel
theorem dX8_readSet_113 : decode cX8_readSet 113 = .ok (.dup, 1) := by decide +kernel
theorem dX8_readSet_114 : decode cX8_readSet 114 = .ok (.getfield 53, 3) := by decide +kernel
theorem dX8_readSet_117 : decode cX8_readSet 117 = .ok (.iconst 1, 1) := by decide +kernel
theorem dX8_readSet_118 : decode cX8_readSet 118 = .ok (.iload_n 2, 1) := by decide +kernel
theorem dX8_readSet_119 : decode cX8_readSet 119 = .ok (.ishl, 1) := by decide +kernel
theorem dX8_readSet_120 : decode cX8_readSet 120 = .ok (.ior, 1) := by decide +kernel
theorem dX8_readSet_121 : decode cX8_readSet 121 = .ok (.putfield 53, 3) := by decide +kernel
theorem dX8_readSet_124 : decode cX8_readSet 124 = .ok (.aload_n 0, 1) := by decide +kernel
theorem dX8_readSet_125 : decode cX8_readSet 125 = .ok (.invokevirtual 117, 3) := by decide +kernel
theorem dX8_readSet_128 : decode cX8_readSet 128 = .ok (.aload_n 0, 1) := by decide +kernel
theorem dX8_readSet_129 : decode cX8_readSet 129 = .ok (.getfield 19, 3) := by decide +kernel
theorem dX8_readSet_132 : decode cX8_readSet 132 = .ok (.iconst 1, 1) := by decide +kernel
theorem dX8_readSet_133 : decode cX8_readSet 133 = .ok (.iload_n 2, 1) := by decide +kernel
theorem dX8_readSet_134 : decode cX8_readSet 134 = .ok (.iadd, 1) := by decide +kernel
theorem dX8_readSet_135 : decode cX8_readSet 135 = .ok (.aload_n 0, 1) := by decide +kernel
theorem dX8_readSet_136 : decode cX8_readSet 136 = .ok (.iload_n 2, 1) := by decide +kernel
theorem dX8_readSet_137 : decode cX8_readSet 137 = .ok (.invokestatic 148, 3) := by decide +kernel
theorem dX8_readSet_140 : decode cX8_readSet 140 = .ok (.iload_n 2, 1) := by decide +kernel
theorem dX8_readSet_141 : decode cX8_readSet 141 = .ok (.invokestatic 151, 3) := by decide +kernel
theorem dX8_readSet_144 : decode cX8_readSet 144 = .ok (.invokevirtual 130, 3) := by decide +kernel
theorem dX8_readSet_147 : decode cX8_readSet 147 = .ok (.iastore, 1) := by decide +kernel
theorem dX8_readSet_148 : decode cX8_readSet 148 = .ok (.return_, 1) := by decide +kernel
theorem dX8_readStatement_0 : decode cX8_readStatement 0 = .ok (.aload_n 0, 1) := by decide +kernel
theorem dX8_readStatement_1 : decode cX8_readStatement 1 = .ok (.getfield 76, 3) := by decide +kernel
theorem dX8_readStatement_4 : decode cX8_readStatement 4 = .ok (.ifCond .ne 10, 3) := by decide +kernel
theorem dX8_readStatement_7 : decode cX8_readStatement 7 = .ok (.aload_n 0, 1) := by decide +kernel
theorem dX8_readStatement_8 : decode cX8_readStatement 8 = .ok (.getfield 86, 3) := by decide +kernel
theorem dX8_readStatement_11 : decode cX8_readStatement 11 = .ok (.goto 4, 3) := by decide +kernel
theorem dX8_readStatement_14 : decode cX8_readStatement 14 = .ok (.iconst (-1), 1) := by decide +kernel
theorem dX8_readStatement_15 : decode cX8_readStatement 15 = .ok (.istore_n 1, 1) := by decide +kernel
theorem dX8_readStatement_16 : decode cX8_readStatement 16 = .ok (.iload_n 1, 1) := by decide +kernel
theorem dX8_readStatement_17 : decode cX8_readStatement 17 = .ok (.tableswitch 120 0 4 #[35, 92, 99, 106, 113], 35) := by decide +kernel
theorem dX8_readStatement_52 : decode cX8_readStatement 52 = .ok (.aload_n 0, 1) := by decide +kernel
theorem dX8_readStatement_53 : decode cX8_readStatement 53 = .ok (.aload_n 0, 1) := by decide +kernel
theorem dX8_readStatement_54 : decode cX8_readStatement 54 = .ok (.getfield 56, 3) := by decide +kernel
theorem dX8_readStatement_57 : decode cX8_readStatement 57 = .ok (.bipush (-14), 2) := by decide +kernel
theorem dX8_readStatement_59 : decode cX8_readStatement 59 = .ok (.invokevirtual 113, 3) := by decide +kernel
theorem dX8_readStatement_62 : decode cX8_readStatement 62 = .ok (.aload_n 0, 1) := by decide +kernel
theorem dX8_readStatement_63 : decode cX8_readStatement 63 = .ok (.aload_n 0, 1) := by decide +kernel
theorem dX8_readStatement_64 : decode cX8_readStatement 64 = .ok (.getfield 19, 3) := by decide +kernel
theorem dX8_readStatement_67 : decode cX8_readStatement 67 = .ok (.sipush 404, 3) := by decide +kernel
theorem dX8_readStatement_70 : decode cX8_readStatement 70 = .ok (.iaload, 1) := by decide +kernel
theorem dX8_readStatement_71 : decode cX8_readStatement 71 = .ok (.ifCond .le 7, 3) := by decide +kernel
theorem dX8_readStatement_74 : decode cX8_readStatement 74 = .ok (.iconst 1, 1) := by decide +kernel
theorem dX8_readStatement_75 : decode cX8_readStatement 75 = .ok (.goto 4, 3) := by decide +kernel
theorem dX8_readStatement_78 : decode cX8_readStatement 78 = .ok (.iconst 0, 1) := by decide +kernel
theorem dX8_readStatement_79 : decode cX8_readStatement 79 = .ok (.bipush (-15), 2) := by decide +kernel
theorem dX8_readStatement_81 : decode cX8_readStatement 81 = .ok (.invokevirtual 113, 3) := by decide +kernel
theorem dX8_readStatement_84 : decode cX8_readStatement 84 = .ok (.aload_n 0, 1) := by decide +kernel
theorem dX8_readStatement_85 : decode cX8_readStatement 85 = .ok (.iconst 1, 1) := by decide +kernel
theorem dX8_readStatement_86 : decode cX8_readStatement 86 = .ok (.putfield 56, 3) := by decide +kernel
theorem dX8_readStatement_89 : decode cX8_readStatement 89 = .ok (.aload_n 0, 1) := by decide +kernel
theorem dX8_readStatement_90 : decode cX8_readStatement 90 = .ok (.invokevirtual 117, 3) := by decide +kernel
theorem dX8_readStatement_93 : decode cX8_readStatement 93 = .ok (.aload_n 0, 1) := by decide +kernel
theorem dX8_readStatement_94 : decode cX8_readStatement 94 = .ok (.getfield 16, 3) := by decide +kernel
theorem dX8_readStatement_97 : decode cX8_readStatement 97 = .ok (.bipush 64, 2) := by decide +kernel
theorem dX8_readStatement_99 : decode cX8_readStatement 99 = .ok (.aload_n 0, 1) := by decide +kernel
theorem dX8_readStatement_100 : decode cX8_readStatement 100 = .ok (.iconst 1, 1) := by decide +kernel
theorem dX8_readStatement_101 : decode cX8_readStatement 101 = .ok (.iconst 4, 1) := by decide +kernel
theorem dX8_readStatement_102 : decode cX8_readStatement 102 = .ok (.invokevirtual 130, 3) := by decide +kernel
theorem dX8_readStatement_105 : decode cX8_readStatement 105 = .ok (.iastore, 1) := by decide +kernel
theorem dX8_readStatement_106 : decode cX8_readStatement 106 = .ok (.goto 38, 3) := by decide +kernel
theorem dX8_readStatement_109 : decode cX8_readStatement 109 = .ok (.aload_n 0, 1) := by decide +kernel
theorem dX8_readStatement_110 : decode cX8_readStatement 110 = .ok (.invokevirtual 154, 3) := by decide +kernel
theorem dX8_readStatement_113 : decode cX8_readStatement 113 = .ok (.goto 31, 3) := by decide +kernel
theorem dX8_readStatement_116 : decode cX8_readStatement 116 = .ok (.aload_n 0, 1) := by decide +kernel
theorem dX8_readStatement_117 : decode cX8_readStatement 117 = .ok (.invokevirtual 157, 3) := by decide +kernel
theorem dX8_readStatement_120 : decode cX8_readStatement 120 = .ok (.goto 24, 3) := by decide +kernel
theorem dX8_readStatement_123 : decode cX8_readStatement 123 = .ok (.aload_n 0, 1) := by decide +kernel
theorem dX8_readStatement_124 : decode cX8_readStatement 124 = .ok (.invokevirtual 160, 3) := by decide +kernel
theorem dX8_readStatement_127 : decode cX8_readStatement 127 = .ok (.goto 17, 3) := by decide +kernel
theorem dX8_readStatement_130 : decode cX8_readStatement 130 = .ok (.aload_n 0, 1) := by decide +kernel
theorem dX8_readStatement_131 : decode cX8_readStatement 131 = .ok (.invokevirtual 163, 3) := by decide +kernel
theorem dX8_readStatement_134 : decode cX8_readStatement 134 = .ok (.goto 10, 3) := by decide +kernel
theorem dX8_readStatement_137 : decode cX8_readStatement 137 = .ok (.aload_n 0, 1) := by decide +kernel
theorem dX8_readStatement_138 : decode cX8_readStatement 138 = .ok (.iconst 1, 1) := by decide +kernel
theorem dX8_readStatement_139 : decode cX8_readStatement 139 = .ok (.bipush (-11), 2) := by decide +kernel
theorem dX8_readStatement_141 : decode cX8_readStatement 141 = .ok (.invokevirtual 113, 3) := by decide +kernel
theorem dX8_readStatement_144 : decode cX8_readStatement 144 = .ok (.aload_n 0, 1) := by decide +kernel
theorem dX8_readStatement_145 : decode cX8_readStatement 145 = .ok (.aload_n 0, 1) := by decide +kernel
theorem dX8_readStatement_146 : decode cX8_readStatement 146 = .ok (.getfield 76, 3) := by decide +kernel
theorem dX8_readStatement_149 : decode cX8_readStatement 149 = .ok (.iconst 2, 1) := by decide +kernel
theorem dX8_readStatement_150 : decode cX8_readStatement 150 = .ok (.if_icmp .eq 7, 3) := by decide +kernel
theorem dX8_readStatement_153 : decode cX8_readStatement 153 = .ok (.iconst 1, 1) := by decide +kernel
theorem dX8_readStatement_154 : decode cX8_readStatement 154 = .ok (.goto 4, 3) := by decide +kernel
theorem dX8_readStatement_157 : decode cX8_readStatement 157 = .ok (.iconst 0, 1) := by decide +kernel
theorem dX8_readStatement_158 : decode cX8_readStatement 158 = .ok (.bipush (-11), 2) := by decide +kernel
theorem dX8_readStatement_160 : decode cX8_readStatement 160 = .ok (.invokevirtual 113, 3) := by decide +kernel
theorem dX8_readStatement_163 : decode cX8_readStatement 163 = .ok (.aload_n 0, 1) := by decide +kernel
theorem dX8_readStatement_164 : decode cX8_readStatement 164 = .ok (.invokevirtual 117, 3) := by decide +kernel
theorem dX8_readStatement_167 : decode cX8_readStatement 167 = .ok (.aload_n 0, 1) := by decide +kernel
theorem dX8_readStatement_168 : decode cX8_readStatement 168 = .ok (.dup, 1) := by decide +kernel
theorem dX8_readStatement_169 : decode cX8_readStatement 169 = .ok (.getfield 60, 3) := by decide +kernel
theorem dX8_readStatement_172 : decode cX8_readStatement 172 = .ok (.iconst 1, 1) := by decide +kernel
theorem dX8_readStatement_173 : decode cX8_readStatement 173 = .ok (.iadd, 1) := by decide +kernel
theorem dX8_readStatement_174 : decode cX8_readStatement 174 = .ok (.putfield 60, 3) := by decide +kernel
theorem dX8_readStatement_177 : decode cX8_readStatement 177 = .ok (.return_, 1) := by decide +kernel
theorem dX8_load_0 : decode cX8_load 0 = .ok (.aload_n 0, 1) := by decide +kernel
theorem dX8_load_1 : decode cX8_load 1 = .ok (.iconst 0, 1) := by decide +kernel
theorem dX8_load_2 : decode cX8_load 2 = .ok (.putfield 47, 3) := by decide +kernel
theorem dX8_load_5 : decode cX8_load 5 = .ok (.iload_n 1, 1) := by decide +kernel
theorem dX8_load_6 : decode cX8_load 6 = .ok (.ifCond .lt 11, 3) := by decide +kernel
theorem dX8_load_9 : decode cX8_load 9 = .ok (.iload_n 1, 1) := by decide +kernel
theorem dX8_load_10 : decode cX8_load 10 = .ok (.aload_n 0, 1) := by decide +kernel
theorem dX8_load_11 : decode cX8_load 11 = .ok (.getfield 50, 3) := by decide +kernel
theorem dX8_load_14 : decode cX8_load 14 = .ok (.if_icmp .le 6, 3) := by decide +kernel
theorem dX8_load_17 : decode cX8_load 17 = .ok (.bipush (-2), 2) := by decide +kernel
theorem dX8_load_19 : decode cX8_load 19 = .ok (.ireturn, 1) := by decide +kernel
theorem dX8_load_20 : decode cX8_load 20 = .ok (.aload_n 0, 1) := by decide +kernel
theorem dX8_load_21 : decode cX8_load 21 = .ok (.invokevirtual 166, 3) := by decide +kernel
theorem dX8_load_24 : decode cX8_load 24 = .ok (.aload_n 0, 1) := by decide +kernel
theorem dX8_load_25 : decode cX8_load 25 = .ok (.invokevirtual 44, 3) := by decide +kernel
theorem dX8_load_28 : decode cX8_load 28 = .ok (.aload_n 0, 1) := by decide +kernel
theorem dX8_load_29 : decode cX8_load 29 = .ok (.iload_n 1, 1) := by decide +kernel
theorem dX8_load_30 : decode cX8_load 30 = .ok (.putfield 66, 3) := by decide +kernel
theorem dX8_load_33 : decode cX8_load 33 = .ok (.aload_n 0, 1) := by decide +kernel
theorem dX8_load_34 : decode cX8_load 34 = .ok (.iconst 0, 1) := by decide +kernel
theorem dX8_load_35 : decode cX8_load 35 = .ok (.putfield 63, 3) := by decide +kernel
theorem dX8_load_38 : decode cX8_load 38 = .ok (.aload_n 0, 1) := by decide +kernel
theorem dX8_load_39 : decode cX8_load 39 = .ok (.iconst 0, 1) := by decide +kernel
theorem dX8_load_40 : decode cX8_load 40 = .ok (.putfield 104, 3) := by decide +kernel
theorem dX8_load_43 : decode cX8_load 43 = .ok (.aload_n 0, 1) := by decide +kernel
theorem dX8_load_44 : decode cX8_load 44 = .ok (.invokevirtual 110, 3) := by decide +kernel
theorem dX8_load_47 : decode cX8_load 47 = .ok (.aload_n 0, 1) := by decide +kernel
theorem dX8_load_48 : decode cX8_load 48 = .ok (.getfield 104, 3) := by decide +kernel
theorem dX8_load_51 : decode cX8_load 51 = .ok (.ifCond .ne 18, 3) := by decide +kernel
theorem dX8_load_54 : decode cX8_load 54 = .ok (.aload_n 0, 1) := by decide +kernel
theorem dX8_load_55 : decode cX8_load 55 = .ok (.getfield 76, 3) := by decide +kernel
theorem dX8_load_58 : decode cX8_load 58 = .ok (.iconst 4, 1) := by decide +kernel
theorem dX8_load_59 : decode cX8_load 59 = .ok (.if_icmp .eq 10, 3) := by decide +kernel
theorem dX8_load_62 : decode cX8_load 62 = .ok (.aload_n 0, 1) := by decide +kernel
theorem dX8_load_63 : decode cX8_load 63 = .ok (.invokevirtual 169, 3) := by decide +kernel
theorem dX8_load_66 : decode cX8_load 66 = .ok (.goto (-19), 3) := by decide +kernel
theorem dX8_load_69 : decode cX8_load 69 = .ok (.aload_n 0, 1) := by decide +kernel
theorem dX8_load_70 : decode cX8_load 70 = .ok (.iconst 0, 1) := by decide +kernel
theorem dX8_load_71 : decode cX8_load 71 = .ok (.putfield 50, 3) := by decide +kernel
theorem dX8_load_74 : decode cX8_load 74 = .ok (.aload_n 0, 1) := by decide +kernel
theorem dX8_load_75 : decode cX8_load 75 = .ok (.aload_n 0, 1) := by decide +kernel
theorem dX8_load_76 : decode cX8_load 76 = .ok (.getfield 104, 3) := by decide +kernel
theorem dX8_load_79 : decode cX8_load 79 = .ok (.ifCond .ne 7, 3) := by decide +kernel
theorem dX8_load_82 : decode cX8_load 82 = .ok (.iconst (-1), 1) := by decide +kernel
theorem dX8_load_83 : decode cX8_load 83 = .ok (.goto 7, 3) := by decide +kernel
theorem dX8_load_86 : decode cX8_load 86 = .ok (.aload_n 0, 1) := by decide +kernel
theorem dX8_load_87 : decode cX8_load 87 = .ok (.getfield 107, 3) := by decide +kernel
theorem dX8_load_90 : decode cX8_load 90 = .ok (.putfield 28, 3) := by decide +kernel
theorem dX8_load_93 : decode cX8_load 93 = .ok (.aload_n 0, 1) := by decide +kernel
theorem dX8_load_94 : decode cX8_load 94 = .ok (.getfield 104, 3) := by decide +kernel
theorem dX8_load_97 : decode cX8_load 97 = .ok (.ifCond .eq 12, 3) := by decide +kernel
theorem dX8_load_100 : decode cX8_load 100 = .ok (.aload_n 0, 1) := by decide +kernel
theorem dX8_load_101 : decode cX8_load 101 = .ok (.invokevirtual 172, 3) := by decide +kernel
theorem dX8_load_104 : decode cX8_load 104 = .ok (.aload_n 0, 1) := by decide +kernel
theorem dX8_load_105 : decode cX8_load 105 = .ok (.getfield 104, 3) := by decide +kernel
theorem dX8_load_108 : decode cX8_load 108 = .ok (.ireturn, 1) := by decide +kernel
theorem dX8_load_109 : decode cX8_load 109 = .ok (.iconst 0, 1) := by decide +kernel
theorem dX8_load_110 : decode cX8_load 110 = .ok (.istore_n 2, 1) := by decide +kernel
theorem dX8_load_111 : decode cX8_load 111 = .ok (.iload_n 2, 1) := by decide +kernel
theorem dX8_load_112 : decode cX8_load 112 = .ok (.bipush 65, 2) := by decide +kernel
theorem dX8_load_114 : decode cX8_load 114 = .ok (.if_icmp .ge 21, 3) := by decide +kernel
theorem dX8_load_117 : decode cX8_load 117 = .ok (.aload_n 0, 1) := by decide +kernel
theorem dX8_load_118 : decode cX8_load 118 = .ok (.getfield 13, 3) := by decide +kernel
theorem dX8_load_121 : decode cX8_load 121 = .ok (.iload_n 2, 1) := by decide +kernel
theorem dX8_load_122 : decode cX8_load 122 = .ok (.aload_n 0, 1) := by decide +kernel
theorem dX8_load_123 : decode cX8_load 123 = .ok (.getfield 16, 3) := by decide +kernel
theorem dX8_load_126 : decode cX8_load 126 = .ok (.iload_n 2, 1) := by decide +kernel
theorem dX8_load_127 : decode cX8_load 127 = .ok (.iaload, 1) := by decide +kernel
theorem dX8_load_128 : decode cX8_load 128 = .ok (.iastore, 1) := by decide +kernel
theorem dX8_load_129 : decode cX8_load 129 = .ok (.iinc 2 1, 3) := by decide +kernel
theorem dX8_load_132 : decode cX8_load 132 = .ok (.goto (-21), 3) := by decide +kernel
theorem dX8_load_135 : decode cX8_load 135 = .ok (.aload_n 0, 1) := by decide +kernel
theorem dX8_load_136 : decode cX8_load 136 = .ok (.iconst 0, 1) := by decide +kernel
theorem dX8_load_137 : decode cX8_load 137 = .ok (.putfield 175, 3) := by decide +kernel
theorem dX8_load_140 : decode cX8_load 140 = .ok (.aload_n 0, 1) := by decide +kernel
theorem dX8_load_141 : decode cX8_load 141 = .ok (.getfield 60, 3) := by decide +kernel
theorem dX8_load_144 : decode cX8_load 144 = .ok (.ireturn, 1) := by decide +kernel
theorem dX8_keepsOld_0 : decode cX8_keepsOld 0 = .ok (.iconst 0, 1) := by decide +kernel
theorem dX8_keepsOld_1 : decode cX8_keepsOld 1 = .ok (.istore_n 1, 1) := by decide +kernel
theorem dX8_keepsOld_2 : decode cX8_keepsOld 2 = .ok (.iload_n 1, 1) := by decide +kernel
theorem dX8_keepsOld_3 : decode cX8_keepsOld 3 = .ok (.sipush 597, 3) := by decide +kernel
theorem dX8_keepsOld_6 : decode cX8_keepsOld 6 = .ok (.if_icmp .ge 21, 3) := by decide +kernel
theorem dX8_keepsOld_9 : decode cX8_keepsOld 9 = .ok (.aload_n 0, 1) := by decide +kernel
theorem dX8_keepsOld_10 : decode cX8_keepsOld 10 = .ok (.getfield 22, 3) := by decide +kernel
theorem dX8_keepsOld_13 : decode cX8_keepsOld 13 = .ok (.iload_n 1, 1) := by decide +kernel
theorem dX8_keepsOld_14 : decode cX8_keepsOld 14 = .ok (.aload_n 0, 1) := by decide +kernel
theorem dX8_keepsOld_15 : decode cX8_keepsOld 15 = .ok (.getfield 19, 3) := by decide +kernel
theorem dX8_keepsOld_18 : decode cX8_keepsOld 18 = .ok (.iload_n 1, 1) := by decide +kernel
theorem dX8_keepsOld_19 : decode cX8_keepsOld 19 = .ok (.iaload, 1) := by decide +kernel
theorem dX8_keepsOld_20 : decode cX8_keepsOld 20 = .ok (.iastore, 1) := by decide +kernel
theorem dX8_keepsOld_21 : decode cX8_keepsOld 21 = .ok (.iinc 1 1, 3) := by decide +kernel
theorem dX8_keepsOld_24 : decode cX8_keepsOld 24 = .ok (.goto (-22), 3) := by decide +kernel
theorem dX8_keepsOld_27 : decode cX8_keepsOld 27 = .ok (.return_, 1) := by decide +kernel
theorem dX8_bringsOld_0 : decode cX8_bringsOld 0 = .ok (.iconst 0, 1) := by decide +kernel
theorem dX8_bringsOld_1 : decode cX8_bringsOld 1 = .ok (.istore_n 1, 1) := by decide +kernel
theorem dX8_bringsOld_2 : decode cX8_bringsOld 2 = .ok (.iload_n 1, 1) := by decide +kernel
theorem dX8_bringsOld_3 : decode cX8_bringsOld 3 = .ok (.sipush 597, 3) := by decide +kernel
theorem dX8_bringsOld_6 : decode cX8_bringsOld 6 = .ok (.if_icmp .ge 21, 3) := by decide +kernel
theorem dX8_bringsOld_9 : decode cX8_bringsOld 9 = .ok (.aload_n 0, 1) := by decide +kernel
theorem dX8_bringsOld_10 : decode cX8_bringsOld 10 = .ok (.getfield 19, 3) := by decide +kernel
theorem dX8_bringsOld_13 : decode cX8_bringsOld 13 = .ok (.iload_n 1, 1) := by decide +kernel
theorem dX8_bringsOld_14 : decode cX8_bringsOld 14 = .ok (.aload_n 0, 1) := by decide +kernel
theorem dX8_bringsOld_15 : decode cX8_bringsOld 15 = .ok (.getfield 22, 3) := by decide +kernel
theorem dX8_bringsOld_18 : decode cX8_bringsOld 18 = .ok (.iload_n 1, 1) := by decide +kernel
theorem dX8_bringsOld_19 : decode cX8_bringsOld 19 = .ok (.iaload, 1) := by decide +kernel
theorem dX8_bringsOld_20 : decode cX8_bringsOld 20 = .ok (.iastore, 1) := by decide +kernel
theorem dX8_bringsOld_21 : decode cX8_bringsOld 21 = .ok (.iinc 1 1, 3) := by decide +kernel
theorem dX8_bringsOld_24 : decode cX8_bringsOld 24 = .ok (.goto (-22), 3) := by decide +kernel
theorem dX8_bringsOld_27 : decode cX8_bringsOld 27 = .ok (.return_, 1) := by decide +kernel
theorem dX8_errorPosition_0 : decode cX8_errorPosition 0 = .ok (.aload_n 0, 1) := by decide +kernel
theorem dX8_errorPosition_1 : decode cX8_errorPosition 1 = .ok (.iconst 0, 1) := by decide +kernel
theorem dX8_errorPosition_2 : decode cX8_errorPosition 2 = .ok (.putfield 47, 3) := by decide +kernel
theorem dX8_errorPosition_5 : decode cX8_errorPosition 5 = .ok (.aload_n 0, 1) := by decide +kernel
theorem dX8_errorPosition_6 : decode cX8_errorPosition 6 = .ok (.getfield 28, 3) := by decide +kernel
theorem dX8_errorPosition_9 : decode cX8_errorPosition 9 = .ok (.ireturn, 1) := by decide +kernel
theorem dX8_isStation_0 : decode cX8_isStation 0 = .ok (.iload_n 1, 1) := by decide +kernel
theorem dX8_isStation_1 : decode cX8_isStation 1 = .ok (.ifCond .lt 18, 3) := by decide +kernel
theorem dX8_isStation_4 : decode cX8_isStation 4 = .ok (.iload_n 1, 1) := by decide +kernel
theorem dX8_isStation_5 : decode cX8_isStation 5 = .ok (.aload_n 0, 1) := by decide +kernel
theorem dX8_isStation_6 : decode cX8_isStation 6 = .ok (.getfield 13, 3) := by decide +kernel
theorem dX8_isStation_9 : decode cX8_isStation 9 = .ok (.bipush 62, 2) := by decide +kernel
theorem dX8_isStation_11 : decode cX8_isStation 11 = .ok (.iaload, 1) := by decide +kernel
theorem dX8_isStation_12 : decode cX8_isStation 12 = .ok (.if_icmp .ge 7, 3) := by decide +kernel
theorem dX8_isStation_15 : decode cX8_isStation 15 = .ok (.iconst 1, 1) := by decide +kernel
theorem dX8_isStation_16 : decode cX8_isStation 16 = .ok (.goto 4, 3) := by decide +kernel
theorem dX8_isStation_19 : decode cX8_isStation 19 = .ok (.iconst 0, 1) := by decide +kernel
theorem dX8_isStation_20 : decode cX8_isStation 20 = .ok (.ireturn, 1) := by decide +kernel
theorem dX8_isCall_0 : decode cX8_isCall 0 = .ok (.iload_n 1, 1) := by decide +kernel
theorem dX8_isCall_1 : decode cX8_isCall 1 = .ok (.ifCond .lt 19, 3) := by decide +kernel
theorem dX8_isCall_4 : decode cX8_isCall 4 = .ok (.iload_n 1, 1) := by decide +kernel
theorem dX8_isCall_5 : decode cX8_isCall 5 = .ok (.aload_n 0, 1) := by decide +kernel
theorem dX8_isCall_6 : decode cX8_isCall 6 = .ok (.getfield 19, 3) := by decide +kernel
theorem dX8_isCall_9 : decode cX8_isCall 9 = .ok (.sipush 404, 3) := by decide +kernel
theorem dX8_isCall_12 : decode cX8_isCall 12 = .ok (.iaload, 1) := by decide +kernel
theorem dX8_isCall_13 : decode cX8_isCall 13 = .ok (.if_icmp .ge 7, 3) := by decide +kernel
theorem dX8_isCall_16 : decode cX8_isCall 16 = .ok (.iconst 1, 1) := by decide +kernel
theorem dX8_isCall_17 : decode cX8_isCall 17 = .ok (.goto 4, 3) := by decide +kernel
theorem dX8_isCall_20 : decode cX8_isCall 20 = .ok (.iconst 0, 1) := by decide +kernel
theorem dX8_isCall_21 : decode cX8_isCall 21 = .ok (.ireturn, 1) := by decide +kernel
theorem dX8_isCarrier_0 : decode cX8_isCarrier 0 = .ok (.iload_n 1, 1) := by decide +kernel
theorem dX8_isCarrier_1 : decode cX8_isCarrier 1 = .ok (.ifCond .lt 18, 3) := by decide +kernel
theorem dX8_isCarrier_4 : decode cX8_isCarrier 4 = .ok (.iload_n 1, 1) := by decide +kernel
theorem dX8_isCarrier_5 : decode cX8_isCarrier 5 = .ok (.aload_n 0, 1) := by decide +kernel
theorem dX8_isCarrier_6 : decode cX8_isCarrier 6 = .ok (.getfield 13, 3) := by decide +kernel
theorem dX8_isCarrier_9 : decode cX8_isCarrier 9 = .ok (.bipush 64, 2) := by decide +kernel
theorem dX8_isCarrier_11 : decode cX8_isCarrier 11 = .ok (.iaload, 1) := by decide +kernel
theorem dX8_isCarrier_12 : decode cX8_isCarrier 12 = .ok (.if_icmp .ge 7, 3) := by decide +kernel
theorem dX8_isCarrier_15 : decode cX8_isCarrier 15 = .ok (.iconst 1, 1) := by decide +kernel
theorem dX8_isCarrier_16 : decode cX8_isCarrier 16 = .ok (.goto 4, 3) := by decide +kernel
theorem dX8_isCarrier_19 : decode cX8_isCarrier 19 = .ok (.iconst 0, 1) := by decide +kernel
theorem dX8_isCarrier_20 : decode cX8_isCarrier 20 = .ok (.ireturn, 1) := by decide +kernel
theorem dX8_isFrame_0 : decode cX8_isFrame 0 = .ok (.iload_n 0, 1) := by decide +kernel
theorem dX8_isFrame_1 : decode cX8_isFrame 1 = .ok (.ifCond .lt 14, 3) := by decide +kernel
theorem dX8_isFrame_4 : decode cX8_isFrame 4 = .ok (.iload_n 0, 1) := by decide +kernel
theorem dX8_isFrame_5 : decode cX8_isFrame 5 = .ok (.sipush 9999, 3) := by decide +kernel
theorem dX8_isFrame_8 : decode cX8_isFrame 8 = .ok (.if_icmp .gt 7, 3) := by decide +kernel
theorem dX8_isFrame_11 : decode cX8_isFrame 11 = .ok (.iconst 1, 1) := by decide +kernel
theorem dX8_isFrame_12 : decode cX8_isFrame 12 = .ok (.goto 4, 3) := by decide +kernel
theorem dX8_isFrame_15 : decode cX8_isFrame 15 = .ok (.iconst 0, 1) := by decide +kernel
theorem dX8_isFrame_16 : decode cX8_isFrame 16 = .ok (.ireturn, 1) := by decide +kernel
theorem dX8_of_0 : decode cX8_of 0 = .ok (.aload_n 0, 1) := by decide +kernel
theorem dX8_of_1 : decode cX8_of 1 = .ok (.getfield 19, 3) := by decide +kernel
theorem dX8_of_4 : decode cX8_of 4 = .ok (.sipush 405, 3) := by decide +kernel
theorem dX8_of_7 : decode cX8_of 7 = .ok (.bipush 12, 2) := by decide +kernel
theorem dX8_of_9 : decode cX8_of 9 = .ok (.iload_n 1, 1) := by decide +kernel
theorem dX8_of_10 : decode cX8_of 10 = .ok (.imul, 1) := by decide +kernel
theorem dX8_of_11 : decode cX8_of 11 = .ok (.iadd, 1) := by decide +kernel
theorem dX8_of_12 : decode cX8_of 12 = .ok (.iload_n 2, 1) := by decide +kernel
theorem dX8_of_13 : decode cX8_of 13 = .ok (.iadd, 1) := by decide +kernel
theorem dX8_of_14 : decode cX8_of 14 = .ok (.iaload, 1) := by decide +kernel
theorem dX8_of_15 : decode cX8_of 15 = .ok (.ireturn, 1) := by decide +kernel
theorem dX8_put_0 : decode cX8_put 0 = .ok (.aload_n 0, 1) := by decide +kernel
theorem dX8_put_1 : decode cX8_put 1 = .ok (.getfield 19, 3) := by decide +kernel
theorem dX8_put_4 : decode cX8_put 4 = .ok (.sipush 405, 3) := by decide +kernel
theorem dX8_put_7 : decode cX8_put 7 = .ok (.bipush 12, 2) := by decide +kernel
theorem dX8_put_9 : decode cX8_put 9 = .ok (.iload_n 1, 1) := by decide +kernel
theorem dX8_put_10 : decode cX8_put 10 = .ok (.imul, 1) := by decide +kernel
theorem dX8_put_11 : decode cX8_put 11 = .ok (.iadd, 1) := by decide +kernel
theorem dX8_put_12 : decode cX8_put 12 = .ok (.iload_n 2, 1) := by decide +kernel
theorem dX8_put_13 : decode cX8_put 13 = .ok (.iadd, 1) := by decide +kernel
theorem dX8_put_14 : decode cX8_put 14 = .ok (.iload_n 3, 1) := by decide +kernel
theorem dX8_put_15 : decode cX8_put 15 = .ok (.iastore, 1) := by decide +kernel
theorem dX8_put_16 : decode cX8_put 16 = .ok (.return_, 1) := by decide +kernel
theorem dX8_checks_0 : decode cX8_checks 0 = .ok (.aload_n 0, 1) := by decide +kernel
theorem dX8_checks_1 : decode cX8_checks 1 = .ok (.iload_n 1, 1) := by decide +kernel
theorem dX8_checks_2 : decode cX8_checks 2 = .ok (.ifCond .eq 7, 3) := by decide +kernel
theorem dX8_checks_5 : decode cX8_checks 5 = .ok (.iconst 0, 1) := by decide +kernel
theorem dX8_checks_6 : decode cX8_checks 6 = .ok (.goto 4, 3) := by decide +kernel
theorem dX8_checks_9 : decode cX8_checks 9 = .ok (.iconst 1, 1) := by decide +kernel
theorem dX8_checks_10 : decode cX8_checks 10 = .ok (.putfield 47, 3) := by decide +kernel
theorem dX8_checks_13 : decode cX8_checks 13 = .ok (.iload_n 1, 1) := by decide +kernel
theorem dX8_checks_14 : decode cX8_checks 14 = .ok (.ireturn, 1) := by decide +kernel
theorem dX8_stationCount_0 : decode cX8_stationCount 0 = .ok (.aload_n 0, 1) := by decide +kernel
theorem dX8_stationCount_1 : decode cX8_stationCount 1 = .ok (.iconst 0, 1) := by decide +kernel
theorem dX8_stationCount_2 : decode cX8_stationCount 2 = .ok (.putfield 47, 3) := by decide +kernel
theorem dX8_stationCount_5 : decode cX8_stationCount 5 = .ok (.aload_n 0, 1) := by decide +kernel
theorem dX8_stationCount_6 : decode cX8_stationCount 6 = .ok (.getfield 13, 3) := by decide +kernel
theorem dX8_stationCount_9 : decode cX8_stationCount 9 = .ok (.bipush 62, 2) := by decide +kernel
theorem dX8_stationCount_11 : decode cX8_stationCount 11 = .ok (.iaload, 1) := by decide +kernel
theorem dX8_stationCount_12 : decode cX8_stationCount 12 = .ok (.ireturn, 1) := by decide +kernel
theorem dX8_callCount_0 : decode cX8_callCount 0 = .ok (.aload_n 0, 1) := by decide +kernel
theorem dX8_callCount_1 : decode cX8_callCount 1 = .ok (.iconst 0, 1) := by decide +kernel
theorem dX8_callCount_2 : decode cX8_callCount 2 = .ok (.putfield 47, 3) := by decide +kernel
theorem dX8_callCount_5 : decode cX8_callCount 5 = .ok (.aload_n 0, 1) := by decide +kernel
theorem dX8_callCount_6 : decode cX8_callCount 6 = .ok (.getfield 19, 3) := by decide +kernel
theorem dX8_callCount_9 : decode cX8_callCount 9 = .ok (.sipush 404, 3) := by decide +kernel
theorem dX8_callCount_12 : decode cX8_callCount 12 = .ok (.iaload, 1) := by decide +kernel
theorem dX8_callCount_13 : decode cX8_callCount 13 = .ok (.ireturn, 1) := by decide +kernel
theorem dX8_carrierCount_0 : decode cX8_carrierCount 0 = .ok (.aload_n 0, 1) := by decide +kernel
theorem dX8_carrierCount_1 : decode cX8_carrierCount 1 = .ok (.iconst 0, 1) := by decide +kernel
theorem dX8_carrierCount_2 : decode cX8_carrierCount 2 = .ok (.putfield 47, 3) := by decide +kernel
theorem dX8_carrierCount_5 : decode cX8_carrierCount 5 = .ok (.aload_n 0, 1) := by decide +kernel
theorem dX8_carrierCount_6 : decode cX8_carrierCount 6 = .ok (.getfield 13, 3) := by decide +kernel
theorem dX8_carrierCount_9 : decode cX8_carrierCount 9 = .ok (.bipush 64, 2) := by decide +kernel
theorem dX8_carrierCount_11 : decode cX8_carrierCount 11 = .ok (.iaload, 1) := by decide +kernel
theorem dX8_carrierCount_12 : decode cX8_carrierCount 12 = .ok (.ireturn, 1) := by decide +kernel
theorem dX8_undoCount_0 : decode cX8_undoCount 0 = .ok (.aload_n 0, 1) := by decide +kernel
theorem dX8_undoCount_1 : decode cX8_undoCount 1 = .ok (.iconst 0, 1) := by decide +kernel
theorem dX8_undoCount_2 : decode cX8_undoCount 2 = .ok (.putfield 47, 3) := by decide +kernel
theorem dX8_undoCount_5 : decode cX8_undoCount 5 = .ok (.aload_n 0, 1) := by decide +kernel
theorem dX8_undoCount_6 : decode cX8_undoCount 6 = .ok (.getfield 175, 3) := by decide +kernel
theorem dX8_undoCount_9 : decode cX8_undoCount 9 = .ok (.ireturn, 1) := by decide +kernel
theorem dX8_stationNamed_0 : decode cX8_stationNamed 0 = .ok (.aload_n 0, 1) := by decide +kernel
theorem dX8_stationNamed_1 : decode cX8_stationNamed 1 = .ok (.iconst 0, 1) := by decide +kernel
theorem dX8_stationNamed_2 : decode cX8_stationNamed 2 = .ok (.putfield 47, 3) := by decide +kernel
theorem dX8_stationNamed_5 : decode cX8_stationNamed 5 = .ok (.aload_n 0, 1) := by decide +kernel
theorem dX8_stationNamed_6 : decode cX8_stationNamed 6 = .ok (.getfield 13, 3) := by decide +kernel
theorem dX8_stationNamed_9 : decode cX8_stationNamed 9 = .ok (.iload_n 1, 1) := by decide +kernel
theorem dX8_stationNamed_10 : decode cX8_stationNamed 10 = .ok (.invokestatic 126, 3) := by decide +kernel
theorem dX8_stationNamed_13 : decode cX8_stationNamed 13 = .ok (.ireturn, 1) := by decide +kernel
theorem dX8_now_0 : decode cX8_now 0 = .ok (.aload_n 0, 1) := by decide +kernel
theorem dX8_now_1 : decode cX8_now 1 = .ok (.iconst 0, 1) := by decide +kernel
theorem dX8_now_2 : decode cX8_now 2 = .ok (.putfield 47, 3) := by decide +kernel
theorem dX8_now_5 : decode cX8_now 5 = .ok (.aload_n 0, 1) := by decide +kernel
theorem dX8_now_6 : decode cX8_now 6 = .ok (.getfield 19, 3) := by decide +kernel
theorem dX8_now_9 : decode cX8_now 9 = .ok (.iconst 0, 1) := by decide +kernel
theorem dX8_now_10 : decode cX8_now 10 = .ok (.iaload, 1) := by decide +kernel
theorem dX8_now_11 : decode cX8_now 11 = .ok (.ireturn, 1) := by decide +kernel
theorem dX8_leastOf_0 : decode cX8_leastOf 0 = .ok (.iload_n 0, 1) := by decide +kernel
theorem dX8_leastOf_1 : decode cX8_leastOf 1 = .ok (.ifCond .ne 9, 3) := by decide +kernel
theorem dX8_leastOf_4 : decode cX8_leastOf 4 = .ok (.sipush 200, 3) := by decide +kernel
theorem dX8_leastOf_7 : decode cX8_leastOf 7 = .ok (.goto 18, 3) := by decide +kernel
theorem dX8_leastOf_10 : decode cX8_leastOf 10 = .ok (.iload_n 0, 1) := by decide +kernel
theorem dX8_leastOf_11 : decode cX8_leastOf 11 = .ok (.iconst 1, 1) := by decide +kernel
theorem dX8_leastOf_12 : decode cX8_leastOf 12 = .ok (.if_icmp .eq 8, 3) := by decide +kernel
theorem dX8_leastOf_15 : decode cX8_leastOf 15 = .ok (.iload_n 0, 1) := by decide +kernel
theorem dX8_leastOf_16 : decode cX8_leastOf 16 = .ok (.iconst 4, 1) := by decide +kernel
theorem dX8_leastOf_17 : decode cX8_leastOf 17 = .ok (.if_icmp .ne 7, 3) := by decide +kernel
theorem dX8_leastOf_20 : decode cX8_leastOf 20 = .ok (.iconst 0, 1) := by decide +kernel
theorem dX8_leastOf_21 : decode cX8_leastOf 21 = .ok (.goto 4, 3) := by decide +kernel
theorem dX8_leastOf_24 : decode cX8_leastOf 24 = .ok (.iconst 1, 1) := by decide +kernel
theorem dX8_leastOf_25 : decode cX8_leastOf 25 = .ok (.ireturn, 1) := by decide +kernel
theorem dX8_mostOf_0 : decode cX8_mostOf 0 = .ok (.iload_n 0, 1) := by decide +kernel
theorem dX8_mostOf_1 : decode cX8_mostOf 1 = .ok (.tableswitch 55 0 4 #[35, 39, 43, 47, 51], 35) := by decide +kernel
theorem dX8_mostOf_36 : decode cX8_mostOf 36 = .ok (.sipush 5000, 3) := by decide +kernel
theorem dX8_mostOf_39 : decode cX8_mostOf 39 = .ok (.ireturn, 1) := by decide +kernel
theorem dX8_mostOf_40 : decode cX8_mostOf 40 = .ok (.sipush 200, 3) := by decide +kernel
theorem dX8_mostOf_43 : decode cX8_mostOf 43 = .ok (.ireturn, 1) := by decide +kernel
theorem dX8_mostOf_44 : decode cX8_mostOf 44 = .ok (.sipush 500, 3) := by decide +kernel
theorem dX8_mostOf_47 : decode cX8_mostOf 47 = .ok (.ireturn, 1) := by decide +kernel
theorem dX8_mostOf_48 : decode cX8_mostOf 48 = .ok (.sipush 200, 3) := by decide +kernel
theorem dX8_mostOf_51 : decode cX8_mostOf 51 = .ok (.ireturn, 1) := by decide +kernel
theorem dX8_mostOf_52 : decode cX8_mostOf 52 = .ok (.sipush 999, 3) := by decide +kernel
theorem dX8_mostOf_55 : decode cX8_mostOf 55 = .ok (.ireturn, 1) := by decide +kernel
theorem dX8_mostOf_56 : decode cX8_mostOf 56 = .ok (.bipush 100, 2) := by decide +kernel
theorem dX8_mostOf_58 : decode cX8_mostOf 58 = .ok (.ireturn, 1) := by decide +kernel
theorem dX8_getSetting_0 : decode cX8_getSetting 0 = .ok (.aload_n 0, 1) := by decide +kernel
theorem dX8_getSetting_1 : decode cX8_getSetting 1 = .ok (.iconst 0, 1) := by decide +kernel
theorem dX8_getSetting_2 : decode cX8_getSetting 2 = .ok (.putfield 47, 3) := by decide +kernel
theorem dX8_getSetting_5 : decode cX8_getSetting 5 = .ok (.iload_n 1, 1) := by decide +kernel
theorem dX8_getSetting_6 : decode cX8_getSetting 6 = .ok (.ifCond .lt 20, 3) := by decide +kernel
theorem dX8_getSetting_9 : decode cX8_getSetting 9 = .ok (.iload_n 1, 1) := by decide +kernel
theorem dX8_getSetting_10 : decode cX8_getSetting 10 = .ok (.bipush 6, 2) := by decide +kernel
theorem dX8_getSetting_12 : decode cX8_getSetting 12 = .ok (.if_icmp .gt 14, 3) := by decide +kernel
theorem dX8_getSetting_15 : decode cX8_getSetting 15 = .ok (.aload_n 0, 1) := by decide +kernel
theorem dX8_getSetting_16 : decode cX8_getSetting 16 = .ok (.getfield 19, 3) := by decide +kernel
theorem dX8_getSetting_19 : decode cX8_getSetting 19 = .ok (.iconst 1, 1) := by decide +kernel
theorem dX8_getSetting_20 : decode cX8_getSetting 20 = .ok (.iload_n 1, 1) := by decide +kernel
theorem dX8_getSetting_21 : decode cX8_getSetting 21 = .ok (.iadd, 1) := by decide +kernel
theorem dX8_getSetting_22 : decode cX8_getSetting 22 = .ok (.iaload, 1) := by decide +kernel
theorem dX8_getSetting_23 : decode cX8_getSetting 23 = .ok (.goto 5, 3) := by decide +kernel
theorem dX8_getSetting_26 : decode cX8_getSetting 26 = .ok (.bipush (-2), 2) := by decide +kernel
theorem dX8_getSetting_28 : decode cX8_getSetting 28 = .ok (.ireturn, 1) := by decide +kernel
theorem dX8_fadeOf_0 : decode cX8_fadeOf 0 = .ok (.iconst 0, 1) := by decide +kernel
theorem dX8_fadeOf_1 : decode cX8_fadeOf 1 = .ok (.istore_n 3, 1) := by decide +kernel
theorem dX8_fadeOf_2 : decode cX8_fadeOf 2 = .ok (.iconst 0, 1) := by decide +kernel
theorem dX8_fadeOf_3 : decode cX8_fadeOf 3 = .ok (.istore 4, 2) := by decide +kernel
theorem dX8_fadeOf_5 : decode cX8_fadeOf 5 = .ok (.iload 4, 2) := by decide +kernel
theorem dX8_fadeOf_7 : decode cX8_fadeOf 7 = .ok (.aload_n 0, 1) := by decide +kernel
theorem dX8_fadeOf_8 : decode cX8_fadeOf 8 = .ok (.getfield 13, 3) := by decide +kernel
theorem dX8_fadeOf_11 : decode cX8_fadeOf 11 = .ok (.bipush 63, 2) := by decide +kernel
theorem dX8_fadeOf_13 : decode cX8_fadeOf 13 = .ok (.iaload, 1) := by decide +kernel
theorem dX8_fadeOf_14 : decode cX8_fadeOf 14 = .ok (.if_icmp .ge 80, 3) := by decide +kernel
theorem dX8_fadeOf_17 : decode cX8_fadeOf 17 = .ok (.aload_n 0, 1) := by decide +kernel
theorem dX8_fadeOf_18 : decode cX8_fadeOf 18 = .ok (.getfield 13, 3) := by decide +kernel
theorem dX8_fadeOf_21 : decode cX8_fadeOf 21 = .ok (.bipush 30, 2) := by decide +kernel
theorem dX8_fadeOf_23 : decode cX8_fadeOf 23 = .ok (.iload 4, 2) := by decide +kernel
theorem dX8_fadeOf_25 : decode cX8_fadeOf 25 = .ok (.iadd, 1) := by decide +kernel
theorem dX8_fadeOf_26 : decode cX8_fadeOf 26 = .ok (.iaload, 1) := by decide +kernel
theorem dX8_fadeOf_27 : decode cX8_fadeOf 27 = .ok (.iload_n 1, 1) := by decide +kernel
theorem dX8_fadeOf_28 : decode cX8_fadeOf 28 = .ok (.if_icmp .ne 35, 3) := by decide +kernel
theorem dX8_fadeOf_31 : decode cX8_fadeOf 31 = .ok (.iload_n 2, 1) := by decide +kernel
theorem dX8_fadeOf_32 : decode cX8_fadeOf 32 = .ok (.aload_n 0, 1) := by decide +kernel
theorem dX8_fadeOf_33 : decode cX8_fadeOf 33 = .ok (.getfield 13, 3) := by decide +kernel
theorem dX8_fadeOf_36 : decode cX8_fadeOf 36 = .ok (.bipush 38, 2) := by decide +kernel
theorem dX8_fadeOf_38 : decode cX8_fadeOf 38 = .ok (.iload 4, 2) := by decide +kernel
theorem dX8_fadeOf_40 : decode cX8_fadeOf 40 = .ok (.iadd, 1) := by decide +kernel
theorem dX8_fadeOf_41 : decode cX8_fadeOf 41 = .ok (.iaload, 1) := by decide +kernel
theorem dX8_fadeOf_42 : decode cX8_fadeOf 42 = .ok (.if_icmp .lt 21, 3) := by decide +kernel
theorem dX8_fadeOf_45 : decode cX8_fadeOf 45 = .ok (.iload_n 2, 1) := by decide +kernel
theorem dX8_fadeOf_46 : decode cX8_fadeOf 46 = .ok (.aload_n 0, 1) := by decide +kernel
theorem dX8_fadeOf_47 : decode cX8_fadeOf 47 = .ok (.getfield 13, 3) := by decide +kernel
theorem dX8_fadeOf_50 : decode cX8_fadeOf 50 = .ok (.bipush 46, 2) := by decide +kernel
theorem dX8_fadeOf_52 : decode cX8_fadeOf 52 = .ok (.iload 4, 2) := by decide +kernel
theorem dX8_fadeOf_54 : decode cX8_fadeOf 54 = .ok (.iadd, 1) := by decide +kernel
theorem dX8_fadeOf_55 : decode cX8_fadeOf 55 = .ok (.iaload, 1) := by decide +kernel
theorem dX8_fadeOf_56 : decode cX8_fadeOf 56 = .ok (.if_icmp .gt 7, 3) := by decide +kernel
theorem dX8_fadeOf_59 : decode cX8_fadeOf 59 = .ok (.iconst 1, 1) := by decide +kernel
theorem dX8_fadeOf_60 : decode cX8_fadeOf 60 = .ok (.goto 4, 3) := by decide +kernel
theorem dX8_fadeOf_63 : decode cX8_fadeOf 63 = .ok (.iconst 0, 1) := by decide +kernel
theorem dX8_fadeOf_64 : decode cX8_fadeOf 64 = .ok (.istore 5, 2) := by decide +kernel
theorem dX8_fadeOf_66 : decode cX8_fadeOf 66 = .ok (.iload_n 3, 1) := by decide +kernel
theorem dX8_fadeOf_67 : decode cX8_fadeOf 67 = .ok (.iload 5, 2) := by decide +kernel
theorem dX8_fadeOf_69 : decode cX8_fadeOf 69 = .ok (.ifCond .eq 16, 3) := by decide +kernel
theorem dX8_fadeOf_72 : decode cX8_fadeOf 72 = .ok (.aload_n 0, 1) := by decide +kernel
theorem dX8_fadeOf_73 : decode cX8_fadeOf 73 = .ok (.getfield 13, 3) := by decide +kernel
theorem dX8_fadeOf_76 : decode cX8_fadeOf 76 = .ok (.bipush 54, 2) := by decide +kernel
theorem dX8_fadeOf_78 : decode cX8_fadeOf 78 = .ok (.iload 4, 2) := by decide +kernel
theorem dX8_fadeOf_80 : decode cX8_fadeOf 80 = .ok (.iadd, 1) := by decide +kernel
theorem dX8_fadeOf_81 : decode cX8_fadeOf 81 = .ok (.iaload, 1) := by decide +kernel
theorem dX8_fadeOf_82 : decode cX8_fadeOf 82 = .ok (.goto 4, 3) := by decide +kernel
theorem dX8_fadeOf_85 : decode cX8_fadeOf 85 = .ok (.iconst 0, 1) := by decide +kernel
theorem dX8_fadeOf_86 : decode cX8_fadeOf 86 = .ok (.iadd, 1) := by decide +kernel
theorem dX8_fadeOf_87 : decode cX8_fadeOf 87 = .ok (.istore_n 3, 1) := by decide +kernel
theorem dX8_fadeOf_88 : decode cX8_fadeOf 88 = .ok (.iinc 4 1, 3) := by decide +kernel
theorem dX8_fadeOf_91 : decode cX8_fadeOf 91 = .ok (.goto (-86), 3) := by decide +kernel
theorem dX8_fadeOf_94 : decode cX8_fadeOf 94 = .ok (.iload_n 3, 1) := by decide +kernel
theorem dX8_fadeOf_95 : decode cX8_fadeOf 95 = .ok (.ireturn, 1) := by decide +kernel
theorem dX8_fade_0 : decode cX8_fade 0 = .ok (.aload_n 0, 1) := by decide +kernel
theorem dX8_fade_1 : decode cX8_fade 1 = .ok (.aload_n 0, 1) := by decide +kernel
theorem dX8_fade_2 : decode cX8_fade 2 = .ok (.iload_n 1, 1) := by decide +kernel
theorem dX8_fade_3 : decode cX8_fade 3 = .ok (.invokevirtual 178, 3) := by decide +kernel
theorem dX8_fade_6 : decode cX8_fade 6 = .ok (.invokevirtual 181, 3) := by decide +kernel
theorem dX8_fade_9 : decode cX8_fade 9 = .ok (.ifCond .ne 5, 3) := by decide +kernel
theorem dX8_fade_12 : decode cX8_fade 12 = .ok (.iconst 0, 1) := by decide +kernel
theorem dX8_fade_13 : decode cX8_fade 13 = .ok (.ireturn, 1) := by decide +kernel
theorem dX8_fade_14 : decode cX8_fade 14 = .ok (.iload_n 2, 1) := by decide +kernel
theorem dX8_fade_15 : decode cX8_fade 15 = .ok (.invokestatic 185, 3) := by decide +kernel
theorem dX8_fade_18 : decode cX8_fade 18 = .ok (.ifCond .eq 12, 3) := by decide +kernel
theorem dX8_fade_21 : decode cX8_fade 21 = .ok (.aload_n 0, 1) := by decide +kernel
theorem dX8_fade_22 : decode cX8_fade 22 = .ok (.iload_n 1, 1) := by decide +kernel
theorem dX8_fade_23 : decode cX8_fade 23 = .ok (.iload_n 2, 1) := by decide +kernel
theorem dX8_fade_24 : decode cX8_fade 24 = .ok (.invokevirtual 188, 3) := by decide +kernel
theorem dX8_fade_27 : decode cX8_fade 27 = .ok (.goto 5, 3) := by decide +kernel
theorem dX8_fade_30 : decode cX8_fade 30 = .ok (.bipush (-2), 2) := by decide +kernel
theorem dX8_fade_32 : decode cX8_fade 32 = .ok (.ireturn, 1) := by decide +kernel
theorem dX8_power_0 : decode cX8_power 0 = .ok (.aload_n 0, 1) := by decide +kernel
theorem dX8_power_1 : decode cX8_power 1 = .ok (.aload_n 0, 1) := by decide +kernel
theorem dX8_power_2 : decode cX8_power 2 = .ok (.iload_n 1, 1) := by decide +kernel
theorem dX8_power_3 : decode cX8_power 3 = .ok (.invokevirtual 178, 3) := by decide +kernel
theorem dX8_power_6 : decode cX8_power 6 = .ok (.invokevirtual 181, 3) := by decide +kernel
theorem dX8_power_9 : decode cX8_power 9 = .ok (.ifCond .eq 15, 3) := by decide +kernel
theorem dX8_power_12 : decode cX8_power 12 = .ok (.aload_n 0, 1) := by decide +kernel
theorem dX8_power_13 : decode cX8_power 13 = .ok (.getfield 19, 3) := by decide +kernel
theorem dX8_power_16 : decode cX8_power 16 = .ok (.bipush 8, 2) := by decide +kernel
theorem dX8_power_18 : decode cX8_power 18 = .ok (.iload_n 1, 1) := by decide +kernel
theorem dX8_power_19 : decode cX8_power 19 = .ok (.iadd, 1) := by decide +kernel
theorem dX8_power_20 : decode cX8_power 20 = .ok (.iaload, 1) := by decide +kernel
theorem dX8_power_21 : decode cX8_power 21 = .ok (.goto 4, 3) := by decide +kernel
theorem dX8_power_24 : decode cX8_power 24 = .ok (.iconst 0, 1) := by decide +kernel
theorem dX8_power_25 : decode cX8_power 25 = .ok (.ireturn, 1) := by decide +kernel
theorem dX8_errorPlaceOf_0 : decode cX8_errorPlaceOf 0 = .ok (.bipush 20, 2) := by decide +kernel
theorem dX8_errorPlaceOf_2 : decode cX8_errorPlaceOf 2 = .ok (.bipush 64, 2) := by decide +kernel
theorem dX8_errorPlaceOf_4 : decode cX8_errorPlaceOf 4 = .ok (.iload_n 1, 1) := by decide +kernel
theorem dX8_errorPlaceOf_5 : decode cX8_errorPlaceOf 5 = .ok (.imul, 1) := by decide +kernel
theorem dX8_errorPlaceOf_6 : decode cX8_errorPlaceOf 6 = .ok (.iadd, 1) := by decide +kernel
theorem dX8_errorPlaceOf_7 : decode cX8_errorPlaceOf 7 = .ok (.iload_n 2, 1) := by decide +kernel
theorem dX8_errorPlaceOf_8 : decode cX8_errorPlaceOf 8 = .ok (.bipush 64, 2) := by decide +kernel
theorem dX8_errorPlaceOf_10 : decode cX8_errorPlaceOf 10 = .ok (.irem, 1) := by decide +kernel
theorem dX8_errorPlaceOf_11 : decode cX8_errorPlaceOf 11 = .ok (.iadd, 1) := by decide +kernel
theorem dX8_errorPlaceOf_12 : decode cX8_errorPlaceOf 12 = .ok (.ireturn, 1) := by decide +kernel
theorem dX8_timingError_0 : decode cX8_timingError 0 = .ok (.aload_n 0, 1) := by decide +kernel
theorem dX8_timingError_1 : decode cX8_timingError 1 = .ok (.aload_n 0, 1) := by decide +kernel
theorem dX8_timingError_2 : decode cX8_timingError 2 = .ok (.iload_n 1, 1) := by decide +kernel
theorem dX8_timingError_3 : decode cX8_timingError 3 = .ok (.invokevirtual 178, 3) := by decide +kernel
theorem dX8_timingError_6 : decode cX8_timingError 6 = .ok (.invokevirtual 181, 3) := by decide +kernel
theorem dX8_timingError_9 : decode cX8_timingError 9 = .ok (.ifCond .eq 22, 3) := by decide +kernel
theorem dX8_timingError_12 : decode cX8_timingError 12 = .ok (.aload_n 0, 1) := by decide +kernel
theorem dX8_timingError_13 : decode cX8_timingError 13 = .ok (.getfield 19, 3) := by decide +kernel
theorem dX8_timingError_16 : decode cX8_timingError 16 = .ok (.aload_n 0, 1) := by decide +kernel
theorem dX8_timingError_17 : decode cX8_timingError 17 = .ok (.iload_n 1, 1) := by decide +kernel
theorem dX8_timingError_18 : decode cX8_timingError 18 = .ok (.aload_n 0, 1) := by decide +kernel
theorem dX8_timingError_19 : decode cX8_timingError 19 = .ok (.getfield 19, 3) := by decide +kernel
theorem dX8_timingError_22 : decode cX8_timingError 22 = .ok (.iconst 0, 1) := by decide +kernel
theorem dX8_timingError_23 : decode cX8_timingError 23 = .ok (.iaload, 1) := by decide +kernel
theorem dX8_timingError_24 : decode cX8_timingError 24 = .ok (.invokevirtual 191, 3) := by decide +kernel
theorem dX8_timingError_27 : decode cX8_timingError 27 = .ok (.iaload, 1) := by decide +kernel
theorem dX8_timingError_28 : decode cX8_timingError 28 = .ok (.goto 4, 3) := by decide +kernel
theorem dX8_timingError_31 : decode cX8_timingError 31 = .ok (.iconst 0, 1) := by decide +kernel
theorem dX8_timingError_32 : decode cX8_timingError 32 = .ok (.ireturn, 1) := by decide +kernel
theorem dX8_tripOf_0 : decode cX8_tripOf 0 = .ok (.aload_n 0, 1) := by decide +kernel
theorem dX8_tripOf_1 : decode cX8_tripOf 1 = .ok (.getfield 19, 3) := by decide +kernel
theorem dX8_tripOf_4 : decode cX8_tripOf 4 = .ok (.iconst 1, 1) := by decide +kernel
theorem dX8_tripOf_5 : decode cX8_tripOf 5 = .ok (.iaload, 1) := by decide +kernel
theorem dX8_tripOf_6 : decode cX8_tripOf 6 = .ok (.istore_n 2, 1) := by decide +kernel
theorem dX8_tripOf_7 : decode cX8_tripOf 7 = .ok (.iconst 2, 1) := by decide +kernel
theorem dX8_tripOf_8 : decode cX8_tripOf 8 = .ok (.aload_n 0, 1) := by decide +kernel
theorem dX8_tripOf_9 : decode cX8_tripOf 9 = .ok (.getfield 13, 3) := by decide +kernel
theorem dX8_tripOf_12 : decode cX8_tripOf 12 = .ok (.bipush 6, 2) := by decide +kernel
theorem dX8_tripOf_14 : decode cX8_tripOf 14 = .ok (.iload_n 1, 1) := by decide +kernel
theorem dX8_tripOf_15 : decode cX8_tripOf 15 = .ok (.iadd, 1) := by decide +kernel
theorem dX8_tripOf_16 : decode cX8_tripOf 16 = .ok (.iaload, 1) := by decide +kernel
theorem dX8_tripOf_17 : decode cX8_tripOf 17 = .ok (.imul, 1) := by decide +kernel
theorem dX8_tripOf_18 : decode cX8_tripOf 18 = .ok (.iload_n 2, 1) := by decide +kernel
theorem dX8_tripOf_19 : decode cX8_tripOf 19 = .ok (.iadd, 1) := by decide +kernel
theorem dX8_tripOf_20 : decode cX8_tripOf 20 = .ok (.iconst 1, 1) := by decide +kernel
theorem dX8_tripOf_21 : decode cX8_tripOf 21 = .ok (.isub, 1) := by decide +kernel
theorem dX8_tripOf_22 : decode cX8_tripOf 22 = .ok (.iload_n 2, 1) := by decide +kernel
theorem dX8_tripOf_23 : decode cX8_tripOf 23 = .ok (.idiv, 1) := by decide +kernel
theorem dX8_tripOf_24 : decode cX8_tripOf 24 = .ok (.ireturn, 1) := by decide +kernel
theorem dX8_roundTrip_0 : decode cX8_roundTrip 0 = .ok (.aload_n 0, 1) := by decide +kernel
theorem dX8_roundTrip_1 : decode cX8_roundTrip 1 = .ok (.aload_n 0, 1) := by decide +kernel
theorem dX8_roundTrip_2 : decode cX8_roundTrip 2 = .ok (.iload_n 1, 1) := by decide +kernel
theorem dX8_roundTrip_3 : decode cX8_roundTrip 3 = .ok (.invokevirtual 178, 3) := by decide +kernel
theorem dX8_roundTrip_6 : decode cX8_roundTrip 6 = .ok (.invokevirtual 181, 3) := by decide +kernel
theorem dX8_roundTrip_9 : decode cX8_roundTrip 9 = .ok (.ifCond .eq 11, 3) := by decide +kernel
theorem dX8_roundTrip_12 : decode cX8_roundTrip 12 = .ok (.aload_n 0, 1) := by decide +kernel
theorem dX8_roundTrip_13 : decode cX8_roundTrip 13 = .ok (.iload_n 1, 1) := by decide +kernel
theorem dX8_roundTrip_14 : decode cX8_roundTrip 14 = .ok (.invokevirtual 194, 3) := by decide +kernel
theorem dX8_roundTrip_17 : decode cX8_roundTrip 17 = .ok (.goto 4, 3) := by decide +kernel
theorem dX8_roundTrip_20 : decode cX8_roundTrip 20 = .ok (.iconst 0, 1) := by decide +kernel
theorem dX8_roundTrip_21 : decode cX8_roundTrip 21 = .ok (.ireturn, 1) := by decide +kernel
theorem dX8_timingFaults_0 : decode cX8_timingFaults 0 = .ok (.aload_n 0, 1) := by decide +kernel
theorem dX8_timingFaults_1 : decode cX8_timingFaults 1 = .ok (.aload_n 0, 1) := by decide +kernel
theorem dX8_timingFaults_2 : decode cX8_timingFaults 2 = .ok (.iload_n 1, 1) := by decide +kernel
theorem dX8_timingFaults_3 : decode cX8_timingFaults 3 = .ok (.invokevirtual 178, 3) := by decide +kernel
theorem dX8_timingFaults_6 : decode cX8_timingFaults 6 = .ok (.invokevirtual 181, 3) := by decide +kernel
theorem dX8_timingFaults_9 : decode cX8_timingFaults 9 = .ok (.ifCond .eq 15, 3) := by decide +kernel
theorem dX8_timingFaults_12 : decode cX8_timingFaults 12 = .ok (.aload_n 0, 1) := by decide +kernel
theorem dX8_timingFaults_13 : decode cX8_timingFaults 13 = .ok (.getfield 19, 3) := by decide +kernel
theorem dX8_timingFaults_16 : decode cX8_timingFaults 16 = .ok (.bipush 14, 2) := by decide +kernel
theorem dX8_timingFaults_18 : decode cX8_timingFaults 18 = .ok (.iload_n 1, 1) := by decide +kernel
theorem dX8_timingFaults_19 : decode cX8_timingFaults 19 = .ok (.iadd, 1) := by decide +kernel
theorem dX8_timingFaults_20 : decode cX8_timingFaults 20 = .ok (.iaload, 1) := by decide +kernel
theorem dX8_timingFaults_21 : decode cX8_timingFaults 21 = .ok (.goto 4, 3) := by decide +kernel
theorem dX8_timingFaults_24 : decode cX8_timingFaults 24 = .ok (.iconst 0, 1) := by decide +kernel
theorem dX8_timingFaults_25 : decode cX8_timingFaults 25 = .ok (.ireturn, 1) := by decide +kernel
theorem dX8_stateOf_0 : decode cX8_stateOf 0 = .ok (.aload_n 0, 1) := by decide +kernel
theorem dX8_stateOf_1 : decode cX8_stateOf 1 = .ok (.aload_n 0, 1) := by decide +kernel
theorem dX8_stateOf_2 : decode cX8_stateOf 2 = .ok (.iload_n 1, 1) := by decide +kernel
theorem dX8_stateOf_3 : decode cX8_stateOf 3 = .ok (.invokevirtual 197, 3) := by decide +kernel
theorem dX8_stateOf_6 : decode cX8_stateOf 6 = .ok (.invokevirtual 181, 3) := by decide +kernel
theorem dX8_stateOf_9 : decode cX8_stateOf 9 = .ok (.ifCond .eq 12, 3) := by decide +kernel
theorem dX8_stateOf_12 : decode cX8_stateOf 12 = .ok (.aload_n 0, 1) := by decide +kernel
theorem dX8_stateOf_13 : decode cX8_stateOf 13 = .ok (.iload_n 1, 1) := by decide +kernel
theorem dX8_stateOf_14 : decode cX8_stateOf 14 = .ok (.iconst 5, 1) := by decide +kernel
theorem dX8_stateOf_15 : decode cX8_stateOf 15 = .ok (.invokevirtual 200, 3) := by decide +kernel
theorem dX8_stateOf_18 : decode cX8_stateOf 18 = .ok (.goto 4, 3) := by decide +kernel
theorem dX8_stateOf_21 : decode cX8_stateOf 21 = .ok (.iconst 0, 1) := by decide +kernel
theorem dX8_stateOf_22 : decode cX8_stateOf 22 = .ok (.ireturn, 1) := by decide +kernel
theorem dX8_senderOf_0 : decode cX8_senderOf 0 = .ok (.aload_n 0, 1) := by decide +kernel
theorem dX8_senderOf_1 : decode cX8_senderOf 1 = .ok (.aload_n 0, 1) := by decide +kernel
theorem dX8_senderOf_2 : decode cX8_senderOf 2 = .ok (.iload_n 1, 1) := by decide +kernel
theorem dX8_senderOf_3 : decode cX8_senderOf 3 = .ok (.invokevirtual 197, 3) := by decide +kernel
theorem dX8_senderOf_6 : decode cX8_senderOf 6 = .ok (.invokevirtual 181, 3) := by decide +kernel
theorem dX8_senderOf_9 : decode cX8_senderOf 9 = .ok (.ifCond .eq 12, 3) := by decide +kernel
theorem dX8_senderOf_12 : decode cX8_senderOf 12 = .ok (.aload_n 0, 1) := by decide +kernel
theorem dX8_senderOf_13 : decode cX8_senderOf 13 = .ok (.iload_n 1, 1) := by decide +kernel
theorem dX8_senderOf_14 : decode cX8_senderOf 14 = .ok (.iconst 0, 1) := by decide +kernel
theorem dX8_senderOf_15 : decode cX8_senderOf 15 = .ok (.invokevirtual 200, 3) := by decide +kernel
theorem dX8_senderOf_18 : decode cX8_senderOf 18 = .ok (.goto 4, 3) := by decide +kernel
theorem dX8_senderOf_21 : decode cX8_senderOf 21 = .ok (.iconst 0, 1) := by decide +kernel
theorem dX8_senderOf_22 : decode cX8_senderOf 22 = .ok (.ireturn, 1) := by decide +kernel
theorem dX8_receiverOf_0 : decode cX8_receiverOf 0 = .ok (.aload_n 0, 1) := by decide +kernel
theorem dX8_receiverOf_1 : decode cX8_receiverOf 1 = .ok (.aload_n 0, 1) := by decide +kernel
theorem dX8_receiverOf_2 : decode cX8_receiverOf 2 = .ok (.iload_n 1, 1) := by decide +kernel
theorem dX8_receiverOf_3 : decode cX8_receiverOf 3 = .ok (.invokevirtual 197, 3) := by decide +kernel
theorem dX8_receiverOf_6 : decode cX8_receiverOf 6 = .ok (.invokevirtual 181, 3) := by decide +kernel
theorem dX8_receiverOf_9 : decode cX8_receiverOf 9 = .ok (.ifCond .eq 12, 3) := by decide +kernel
theorem dX8_receiverOf_12 : decode cX8_receiverOf 12 = .ok (.aload_n 0, 1) := by decide +kernel
theorem dX8_receiverOf_13 : decode cX8_receiverOf 13 = .ok (.iload_n 1, 1) := by decide +kernel
theorem dX8_receiverOf_14 : decode cX8_receiverOf 14 = .ok (.iconst 1, 1) := by decide +kernel
theorem dX8_receiverOf_15 : decode cX8_receiverOf 15 = .ok (.invokevirtual 200, 3) := by decide +kernel
theorem dX8_receiverOf_18 : decode cX8_receiverOf 18 = .ok (.goto 4, 3) := by decide +kernel
theorem dX8_receiverOf_21 : decode cX8_receiverOf 21 = .ok (.iconst 0, 1) := by decide +kernel
theorem dX8_receiverOf_22 : decode cX8_receiverOf 22 = .ok (.ireturn, 1) := by decide +kernel
theorem dX8_isActive_0 : decode cX8_isActive 0 = .ok (.aload_n 0, 1) := by decide +kernel
theorem dX8_isActive_1 : decode cX8_isActive 1 = .ok (.iload_n 1, 1) := by decide +kernel
theorem dX8_isActive_2 : decode cX8_isActive 2 = .ok (.iconst 5, 1) := by decide +kernel
theorem dX8_isActive_3 : decode cX8_isActive 3 = .ok (.invokevirtual 200, 3) := by decide +kernel
theorem dX8_isActive_6 : decode cX8_isActive 6 = .ok (.iconst 1, 1) := by decide +kernel
theorem dX8_isActive_7 : decode cX8_isActive 7 = .ok (.if_icmp .ne 7, 3) := by decide +kernel
theorem dX8_isActive_10 : decode cX8_isActive 10 = .ok (.iconst 1, 1) := by decide +kernel
theorem dX8_isActive_11 : decode cX8_isActive 11 = .ok (.goto 4, 3) := by decide +kernel
theorem dX8_isActive_14 : decode cX8_isActive 14 = .ok (.iconst 0, 1) := by decide +kernel
theorem dX8_isActive_15 : decode cX8_isActive 15 = .ok (.ireturn, 1) := by decide +kernel
theorem dX8_ofActive_0 : decode cX8_ofActive 0 = .ok (.aload_n 0, 1) := by decide +kernel
theorem dX8_ofActive_1 : decode cX8_ofActive 1 = .ok (.aload_n 0, 1) := by decide +kernel
theorem dX8_ofActive_2 : decode cX8_ofActive 2 = .ok (.iload_n 1, 1) := by decide +kernel
theorem dX8_ofActive_3 : decode cX8_ofActive 3 = .ok (.invokevirtual 197, 3) := by decide +kernel
theorem dX8_ofActive_6 : decode cX8_ofActive 6 = .ok (.invokevirtual 181, 3) := by decide +kernel
theorem dX8_ofActive_9 : decode cX8_ofActive 9 = .ok (.ifCond .ne 5, 3) := by decide +kernel
theorem dX8_ofActive_12 : decode cX8_ofActive 12 = .ok (.iconst 0, 1) := by decide +kernel
theorem dX8_ofActive_13 : decode cX8_ofActive 13 = .ok (.ireturn, 1) := by decide +kernel
theorem dX8_ofActive_14 : decode cX8_ofActive 14 = .ok (.aload_n 0, 1) := by decide +kernel
theorem dX8_ofActive_15 : decode cX8_ofActive 15 = .ok (.iload_n 1, 1) := by decide +kernel
theorem dX8_ofActive_16 : decode cX8_ofActive 16 = .ok (.invokevirtual 203, 3) := by decide +kernel
theorem dX8_ofActive_19 : decode cX8_ofActive 19 = .ok (.ifCond .eq 12, 3) := by decide +kernel
theorem dX8_ofActive_22 : decode cX8_ofActive 22 = .ok (.aload_n 0, 1) := by decide +kernel
theorem dX8_ofActive_23 : decode cX8_ofActive 23 = .ok (.iload_n 1, 1) := by decide +kernel
theorem dX8_ofActive_24 : decode cX8_ofActive 24 = .ok (.iload_n 2, 1) := by decide +kernel
theorem dX8_ofActive_25 : decode cX8_ofActive 25 = .ok (.invokevirtual 200, 3) := by decide +kernel
theorem dX8_ofActive_28 : decode cX8_ofActive 28 = .ok (.goto 4, 3) := by decide +kernel
theorem dX8_ofActive_31 : decode cX8_ofActive 31 = .ok (.iconst (-1), 1) := by decide +kernel
theorem dX8_ofActive_32 : decode cX8_ofActive 32 = .ok (.ireturn, 1) := by decide +kernel
theorem dX8_carrierOf_0 : decode cX8_carrierOf 0 = .ok (.aload_n 0, 1) := by decide +kernel
theorem dX8_carrierOf_1 : decode cX8_carrierOf 1 = .ok (.iload_n 1, 1) := by decide +kernel
theorem dX8_carrierOf_2 : decode cX8_carrierOf 2 = .ok (.bipush 6, 2) := by decide +kernel
theorem dX8_carrierOf_4 : decode cX8_carrierOf 4 = .ok (.invokevirtual 206, 3) := by decide +kernel
theorem dX8_carrierOf_7 : decode cX8_carrierOf 7 = .ok (.ireturn, 1) := by decide +kernel
theorem dX8_startOf_0 : decode cX8_startOf 0 = .ok (.aload_n 0, 1) := by decide +kernel
theorem dX8_startOf_1 : decode cX8_startOf 1 = .ok (.iload_n 1, 1) := by decide +kernel
theorem dX8_startOf_2 : decode cX8_startOf 2 = .ok (.bipush 7, 2) := by decide +kernel
theorem dX8_startOf_4 : decode cX8_startOf 4 = .ok (.invokevirtual 206, 3) := by decide +kernel
theorem dX8_startOf_7 : decode cX8_startOf 7 = .ok (.ireturn, 1) := by decide +kernel
theorem dX8_endOf_0 : decode cX8_endOf 0 = .ok (.aload_n 0, 1) := by decide +kernel
theorem dX8_endOf_1 : decode cX8_endOf 1 = .ok (.iload_n 1, 1) := by decide +kernel
theorem dX8_endOf_2 : decode cX8_endOf 2 = .ok (.bipush 8, 2) := by decide +kernel
theorem dX8_endOf_4 : decode cX8_endOf 4 = .ok (.invokevirtual 206, 3) := by decide +kernel
theorem dX8_endOf_7 : decode cX8_endOf 7 = .ok (.ireturn, 1) := by decide +kernel
theorem dX8_burst_0 : decode cX8_burst 0 = .ok (.aload_n 0, 1) := by decide +kernel
theorem dX8_burst_1 : decode cX8_burst 1 = .ok (.getfield 19, 3) := by decide +kernel
theorem dX8_burst_4 : decode cX8_burst 4 = .ok (.iconst 4, 1) := by decide +kernel
theorem dX8_burst_5 : decode cX8_burst 5 = .ok (.iaload, 1) := by decide +kernel
theorem dX8_burst_6 : decode cX8_burst 6 = .ok (.aload_n 0, 1) := by decide +kernel
theorem dX8_burst_7 : decode cX8_burst 7 = .ok (.iload_n 1, 1) := by decide +kernel
theorem dX8_burst_8 : decode cX8_burst 8 = .ok (.iconst 3, 1) := by decide +kernel
theorem dX8_burst_9 : decode cX8_burst 9 = .ok (.invokevirtual 200, 3) := by decide +kernel
theorem dX8_burst_12 : decode cX8_burst 12 = .ok (.iadd, 1) := by decide +kernel
theorem dX8_burst_13 : decode cX8_burst 13 = .ok (.ireturn, 1) := by decide +kernel
theorem dX8_burstOf_0 : decode cX8_burstOf 0 = .ok (.aload_n 0, 1) := by decide +kernel
theorem dX8_burstOf_1 : decode cX8_burstOf 1 = .ok (.aload_n 0, 1) := by decide +kernel
theorem dX8_burstOf_2 : decode cX8_burstOf 2 = .ok (.iload_n 1, 1) := by decide +kernel
theorem dX8_burstOf_3 : decode cX8_burstOf 3 = .ok (.invokevirtual 197, 3) := by decide +kernel
theorem dX8_burstOf_6 : decode cX8_burstOf 6 = .ok (.invokevirtual 181, 3) := by decide +kernel
theorem dX8_burstOf_9 : decode cX8_burstOf 9 = .ok (.ifCond .eq 11, 3) := by decide +kernel
theorem dX8_burstOf_12 : decode cX8_burstOf 12 = .ok (.aload_n 0, 1) := by decide +kernel
theorem dX8_burstOf_13 : decode cX8_burstOf 13 = .ok (.iload_n 1, 1) := by decide +kernel
theorem dX8_burstOf_14 : decode cX8_burstOf 14 = .ok (.invokevirtual 209, 3) := by decide +kernel
theorem dX8_burstOf_17 : decode cX8_burstOf 17 = .ok (.goto 4, 3) := by decide +kernel
theorem dX8_burstOf_20 : decode cX8_burstOf 20 = .ok (.iconst 0, 1) := by decide +kernel
theorem dX8_burstOf_21 : decode cX8_burstOf 21 = .ok (.ireturn, 1) := by decide +kernel
theorem dX8_sendOffset_0 : decode cX8_sendOffset 0 = .ok (.aload_n 0, 1) := by decide +kernel
theorem dX8_sendOffset_1 : decode cX8_sendOffset 1 = .ok (.iload_n 1, 1) := by decide +kernel
theorem dX8_sendOffset_2 : decode cX8_sendOffset 2 = .ok (.bipush 7, 2) := by decide +kernel
theorem dX8_sendOffset_4 : decode cX8_sendOffset 4 = .ok (.invokevirtual 206, 3) := by decide +kernel
theorem dX8_sendOffset_7 : decode cX8_sendOffset 7 = .ok (.istore_n 2, 1) := by decide +kernel
theorem dX8_sendOffset_8 : decode cX8_sendOffset 8 = .ok (.aload_n 0, 1) := by decide +kernel
theorem dX8_sendOffset_9 : decode cX8_sendOffset 9 = .ok (.getfield 47, 3) := by decide +kernel
theorem dX8_sendOffset_12 : decode cX8_sendOffset 12 = .ok (.ifCond .ne 8, 3) := by decide +kernel
theorem dX8_sendOffset_15 : decode cX8_sendOffset 15 = .ok (.iload_n 2, 1) := by decide +kernel
theorem dX8_sendOffset_16 : decode cX8_sendOffset 16 = .ok (.iconst (-1), 1) := by decide +kernel
theorem dX8_sendOffset_17 : decode cX8_sendOffset 17 = .ok (.if_icmp .ne 5, 3) := by decide +kernel
theorem dX8_sendOffset_20 : decode cX8_sendOffset 20 = .ok (.iload_n 2, 1) := by decide +kernel
theorem dX8_sendOffset_21 : decode cX8_sendOffset 21 = .ok (.ireturn, 1) := by decide +kernel
theorem dX8_sendOffset_22 : decode cX8_sendOffset 22 = .ok (.aload_n 0, 1) := by decide +kernel
theorem dX8_sendOffset_23 : decode cX8_sendOffset 23 = .ok (.getfield 19, 3) := by decide +kernel
theorem dX8_sendOffset_26 : decode cX8_sendOffset 26 = .ok (.iconst 1, 1) := by decide +kernel
theorem dX8_sendOffset_27 : decode cX8_sendOffset 27 = .ok (.iaload, 1) := by decide +kernel
theorem dX8_sendOffset_28 : decode cX8_sendOffset 28 = .ok (.istore_n 3, 1) := by decide +kernel
theorem dX8_sendOffset_29 : decode cX8_sendOffset 29 = .ok (.iload_n 2, 1) := by decide +kernel
theorem dX8_sendOffset_30 : decode cX8_sendOffset 30 = .ok (.aload_n 0, 1) := by decide +kernel
theorem dX8_sendOffset_31 : decode cX8_sendOffset 31 = .ok (.getfield 13, 3) := by decide +kernel
theorem dX8_sendOffset_34 : decode cX8_sendOffset 34 = .ok (.bipush 6, 2) := by decide +kernel
theorem dX8_sendOffset_36 : decode cX8_sendOffset 36 = .ok (.aload_n 0, 1) := by decide +kernel
theorem dX8_sendOffset_37 : decode cX8_sendOffset 37 = .ok (.iload_n 1, 1) := by decide +kernel
theorem dX8_sendOffset_38 : decode cX8_sendOffset 38 = .ok (.iconst 0, 1) := by decide +kernel
theorem dX8_sendOffset_39 : decode cX8_sendOffset 39 = .ok (.invokevirtual 200, 3) := by decide +kernel
theorem dX8_sendOffset_42 : decode cX8_sendOffset 42 = .ok (.iadd, 1) := by decide +kernel
theorem dX8_sendOffset_43 : decode cX8_sendOffset 43 = .ok (.iaload, 1) := by decide +kernel
theorem dX8_sendOffset_44 : decode cX8_sendOffset 44 = .ok (.isub, 1) := by decide +kernel
theorem dX8_sendOffset_45 : decode cX8_sendOffset 45 = .ok (.iload_n 3, 1) := by decide +kernel
theorem dX8_sendOffset_46 : decode cX8_sendOffset 46 = .ok (.irem, 1) := by decide +kernel
theorem dX8_sendOffset_47 : decode cX8_sendOffset 47 = .ok (.istore 4, 2) := by decide +kernel
theorem dX8_sendOffset_49 : decode cX8_sendOffset 49 = .ok (.iload 4, 2) := by decide +kernel
theorem dX8_sendOffset_51 : decode cX8_sendOffset 51 = .ok (.ifCond .ge 10, 3) := by decide +kernel
theorem dX8_sendOffset_54 : decode cX8_sendOffset 54 = .ok (.iload 4, 2) := by decide +kernel
theorem dX8_sendOffset_56 : decode cX8_sendOffset 56 = .ok (.iload_n 3, 1) := by decide +kernel
theorem dX8_sendOffset_57 : decode cX8_sendOffset 57 = .ok (.iadd, 1) := by decide +kernel
theorem dX8_sendOffset_58 : decode cX8_sendOffset 58 = .ok (.goto 5, 3) := by decide +kernel
theorem dX8_sendOffset_61 : decode cX8_sendOffset 61 = .ok (.iload 4, 2) := by decide +kernel
theorem dX8_sendOffset_63 : decode cX8_sendOffset 63 = .ok (.ireturn, 1) := by decide +kernel
theorem dX8_waitOf_0 : decode cX8_waitOf 0 = .ok (.aload_n 0, 1) := by decide +kernel
theorem dX8_waitOf_1 : decode cX8_waitOf 1 = .ok (.aload_n 0, 1) := by decide +kernel
theorem dX8_waitOf_2 : decode cX8_waitOf 2 = .ok (.iload_n 1, 1) := by decide +kernel
theorem dX8_waitOf_3 : decode cX8_waitOf 3 = .ok (.invokevirtual 197, 3) := by decide +kernel
theorem dX8_waitOf_6 : decode cX8_waitOf 6 = .ok (.invokevirtual 181, 3) := by decide +kernel
theorem dX8_waitOf_9 : decode cX8_waitOf 9 = .ok (.ifCond .ne 5, 3) := by decide +kernel
theorem dX8_waitOf_12 : decode cX8_waitOf 12 = .ok (.iconst 0, 1) := by decide +kernel
theorem dX8_waitOf_13 : decode cX8_waitOf 13 = .ok (.ireturn, 1) := by decide +kernel
theorem dX8_waitOf_14 : decode cX8_waitOf 14 = .ok (.aload_n 0, 1) := by decide +kernel
theorem dX8_waitOf_15 : decode cX8_waitOf 15 = .ok (.iload_n 1, 1) := by decide +kernel
theorem dX8_waitOf_16 : decode cX8_waitOf 16 = .ok (.bipush 10, 2) := by decide +kernel
theorem dX8_waitOf_18 : decode cX8_waitOf 18 = .ok (.invokevirtual 200, 3) := by decide +kernel
theorem dX8_waitOf_21 : decode cX8_waitOf 21 = .ok (.iconst (-1), 1) := by decide +kernel
theorem dX8_waitOf_22 : decode cX8_waitOf 22 = .ok (.if_icmp .eq 19, 3) := by decide +kernel
theorem dX8_waitOf_25 : decode cX8_waitOf 25 = .ok (.aload_n 0, 1) := by decide +kernel
theorem dX8_waitOf_26 : decode cX8_waitOf 26 = .ok (.iload_n 1, 1) := by decide +kernel
theorem dX8_waitOf_27 : decode cX8_waitOf 27 = .ok (.bipush 10, 2) := by decide +kernel
theorem dX8_waitOf_29 : decode cX8_waitOf 29 = .ok (.invokevirtual 200, 3) := by decide +kernel
theorem dX8_waitOf_32 : decode cX8_waitOf 32 = .ok (.aload_n 0, 1) := by decide +kernel
theorem dX8_waitOf_33 : decode cX8_waitOf 33 = .ok (.iload_n 1, 1) := by decide +kernel
theorem dX8_waitOf_34 : decode cX8_waitOf 34 = .ok (.bipush 9, 2) := by decide +kernel
theorem dX8_waitOf_36 : decode cX8_waitOf 36 = .ok (.invokevirtual 200, 3) := by decide +kernel
theorem dX8_waitOf_39 : decode cX8_waitOf 39 = .ok (.isub, 1) := by decide +kernel
theorem dX8_waitOf_40 : decode cX8_waitOf 40 = .ok (.ireturn, 1) := by decide +kernel
theorem dX8_waitOf_41 : decode cX8_waitOf 41 = .ok (.aload_n 0, 1) := by decide +kernel
theorem dX8_waitOf_42 : decode cX8_waitOf 42 = .ok (.iload_n 1, 1) := by decide +kernel
theorem dX8_waitOf_43 : decode cX8_waitOf 43 = .ok (.iconst 5, 1) := by decide +kernel
theorem dX8_waitOf_44 : decode cX8_waitOf 44 = .ok (.invokevirtual 200, 3) := by decide +kernel
theorem dX8_waitOf_47 : decode cX8_waitOf 47 = .ok (.ifCond .ne 20, 3) := by decide +kernel
theorem dX8_waitOf_50 : decode cX8_waitOf 50 = .ok (.aload_n 0, 1) := by decide +kernel
theorem dX8_waitOf_51 : decode cX8_waitOf 51 = .ok (.getfield 19, 3) := by decide +kernel
theorem dX8_waitOf_54 : decode cX8_waitOf 54 = .ok (.iconst 0, 1) := by decide +kernel
theorem dX8_waitOf_55 : decode cX8_waitOf 55 = .ok (.iaload, 1) := by decide +kernel
theorem dX8_waitOf_56 : decode cX8_waitOf 56 = .ok (.aload_n 0, 1) := by decide +kernel
theorem dX8_waitOf_57 : decode cX8_waitOf 57 = .ok (.iload_n 1, 1) := by decide +kernel
theorem dX8_waitOf_58 : decode cX8_waitOf 58 = .ok (.bipush 9, 2) := by decide +kernel
theorem dX8_waitOf_60 : decode cX8_waitOf 60 = .ok (.invokevirtual 200, 3) := by decide +kernel
theorem dX8_waitOf_63 : decode cX8_waitOf 63 = .ok (.isub, 1) := by decide +kernel
theorem dX8_waitOf_64 : decode cX8_waitOf 64 = .ok (.goto 4, 3) := by decide +kernel
theorem dX8_waitOf_67 : decode cX8_waitOf 67 = .ok (.iconst (-1), 1) := by decide +kernel
theorem dX8_waitOf_68 : decode cX8_waitOf 68 = .ok (.ireturn, 1) := by decide +kernel
theorem dX8_margin_0 : decode cX8_margin 0 = .ok (.iload_n 2, 1) := by decide +kernel
theorem dX8_margin_1 : decode cX8_margin 1 = .ok (.aload_n 0, 1) := by decide +kernel
theorem dX8_margin_2 : decode cX8_margin 2 = .ok (.aload_n 0, 1) := by decide +kernel
theorem dX8_margin_3 : decode cX8_margin 3 = .ok (.iload_n 1, 1) := by decide +kernel
theorem dX8_margin_4 : decode cX8_margin 4 = .ok (.iconst 0, 1) := by decide +kernel
theorem dX8_margin_5 : decode cX8_margin 5 = .ok (.invokevirtual 200, 3) := by decide +kernel
theorem dX8_margin_8 : decode cX8_margin 8 = .ok (.iload_n 3, 1) := by decide +kernel
theorem dX8_margin_9 : decode cX8_margin 9 = .ok (.invokevirtual 188, 3) := by decide +kernel
theorem dX8_margin_12 : decode cX8_margin 12 = .ok (.isub, 1) := by decide +kernel
theorem dX8_margin_13 : decode cX8_margin 13 = .ok (.aload_n 0, 1) := by decide +kernel
theorem dX8_margin_14 : decode cX8_margin 14 = .ok (.aload_n 0, 1) := by decide +kernel
theorem dX8_margin_15 : decode cX8_margin 15 = .ok (.iload_n 1, 1) := by decide +kernel
theorem dX8_margin_16 : decode cX8_margin 16 = .ok (.iconst 1, 1) := by decide +kernel
theorem dX8_margin_17 : decode cX8_margin 17 = .ok (.invokevirtual 200, 3) := by decide +kernel
theorem dX8_margin_20 : decode cX8_margin 20 = .ok (.iload_n 3, 1) := by decide +kernel
theorem dX8_margin_21 : decode cX8_margin 21 = .ok (.invokevirtual 188, 3) := by decide +kernel
theorem dX8_margin_24 : decode cX8_margin 24 = .ok (.isub, 1) := by decide +kernel
theorem dX8_margin_25 : decode cX8_margin 25 = .ok (.aload_n 0, 1) := by decide +kernel
theorem dX8_margin_26 : decode cX8_margin 26 = .ok (.getfield 19, 3) := by decide +kernel
theorem dX8_margin_29 : decode cX8_margin 29 = .ok (.iconst 5, 1) := by decide +kernel
theorem dX8_margin_30 : decode cX8_margin 30 = .ok (.iaload, 1) := by decide +kernel
theorem dX8_margin_31 : decode cX8_margin 31 = .ok (.isub, 1) := by decide +kernel
theorem dX8_margin_32 : decode cX8_margin 32 = .ok (.ireturn, 1) := by decide +kernel
theorem dX8_marginNow_0 : decode cX8_marginNow 0 = .ok (.aload_n 0, 1) := by decide +kernel
theorem dX8_marginNow_1 : decode cX8_marginNow 1 = .ok (.iload_n 1, 1) := by decide +kernel
theorem dX8_marginNow_2 : decode cX8_marginNow 2 = .ok (.aload_n 0, 1) := by decide +kernel
theorem dX8_marginNow_3 : decode cX8_marginNow 3 = .ok (.getfield 19, 3) := by decide +kernel
theorem dX8_marginNow_6 : decode cX8_marginNow 6 = .ok (.bipush 8, 2) := by decide +kernel
theorem dX8_marginNow_8 : decode cX8_marginNow 8 = .ok (.aload_n 0, 1) := by decide +kernel
theorem dX8_marginNow_9 : decode cX8_marginNow 9 = .ok (.iload_n 1, 1) := by decide +kernel
theorem dX8_marginNow_10 : decode cX8_marginNow 10 = .ok (.iconst 0, 1) := by decide +kernel
theorem dX8_marginNow_11 : decode cX8_marginNow 11 = .ok (.invokevirtual 200, 3) := by decide +kernel
theorem dX8_marginNow_14 : decode cX8_marginNow 14 = .ok (.iadd, 1) := by decide +kernel
theorem dX8_marginNow_15 : decode cX8_marginNow 15 = .ok (.iaload, 1) := by decide +kernel
theorem dX8_marginNow_16 : decode cX8_marginNow 16 = .ok (.aload_n 0, 1) := by decide +kernel
theorem dX8_marginNow_17 : decode cX8_marginNow 17 = .ok (.getfield 19, 3) := by decide +kernel
theorem dX8_marginNow_20 : decode cX8_marginNow 20 = .ok (.iconst 0, 1) := by decide +kernel
theorem dX8_marginNow_21 : decode cX8_marginNow 21 = .ok (.iaload, 1) := by decide +kernel
theorem dX8_marginNow_22 : decode cX8_marginNow 22 = .ok (.invokevirtual 212, 3) := by decide +kernel
theorem dX8_marginNow_25 : decode cX8_marginNow 25 = .ok (.ireturn, 1) := by decide +kernel
theorem dX8_marginOf_0 : decode cX8_marginOf 0 = .ok (.aload_n 0, 1) := by decide +kernel
theorem dX8_marginOf_1 : decode cX8_marginOf 1 = .ok (.aload_n 0, 1) := by decide +kernel
theorem dX8_marginOf_2 : decode cX8_marginOf 2 = .ok (.iload_n 1, 1) := by decide +kernel
theorem dX8_marginOf_3 : decode cX8_marginOf 3 = .ok (.invokevirtual 197, 3) := by decide +kernel
theorem dX8_marginOf_6 : decode cX8_marginOf 6 = .ok (.invokevirtual 181, 3) := by decide +kernel
theorem dX8_marginOf_9 : decode cX8_marginOf 9 = .ok (.ifCond .eq 11, 3) := by decide +kernel
theorem dX8_marginOf_12 : decode cX8_marginOf 12 = .ok (.aload_n 0, 1) := by decide +kernel
theorem dX8_marginOf_13 : decode cX8_marginOf 13 = .ok (.iload_n 1, 1) := by decide +kernel
theorem dX8_marginOf_14 : decode cX8_marginOf 14 = .ok (.invokevirtual 216, 3) := by decide +kernel
theorem dX8_marginOf_17 : decode cX8_marginOf 17 = .ok (.goto 4, 3) := by decide +kernel
theorem dX8_marginOf_20 : decode cX8_marginOf 20 = .ok (.iconst 0, 1) := by decide +kernel
theorem dX8_marginOf_21 : decode cX8_marginOf 21 = .ok (.ireturn, 1) := by decide +kernel
theorem dX8_degradedFrames_0 : decode cX8_degradedFrames 0 = .ok (.aload_n 0, 1) := by decide +kernel
theorem dX8_degradedFrames_1 : decode cX8_degradedFrames 1 = .ok (.aload_n 0, 1) := by decide +kernel
theorem dX8_degradedFrames_2 : decode cX8_degradedFrames 2 = .ok (.iload_n 1, 1) := by decide +kernel
theorem dX8_degradedFrames_3 : decode cX8_degradedFrames 3 = .ok (.invokevirtual 197, 3) := by decide +kernel
theorem dX8_degradedFrames_6 : decode cX8_degradedFrames 6 = .ok (.invokevirtual 181, 3) := by decide +kernel
theorem dX8_degradedFrames_9 : decode cX8_degradedFrames 9 = .ok (.ifCond .eq 13, 3) := by decide +kernel
theorem dX8_degradedFrames_12 : decode cX8_degradedFrames 12 = .ok (.aload_n 0, 1) := by decide +kernel
theorem dX8_degradedFrames_13 : decode cX8_degradedFrames 13 = .ok (.iload_n 1, 1) := by decide +kernel
theorem dX8_degradedFrames_14 : decode cX8_degradedFrames 14 = .ok (.bipush 11, 2) := by decide +kernel
theorem dX8_degradedFrames_16 : decode cX8_degradedFrames 16 = .ok (.invokevirtual 200, 3) := by decide +kernel
theorem dX8_degradedFrames_19 : decode cX8_degradedFrames 19 = .ok (.goto 4, 3) := by decide +kernel
theorem dX8_degradedFrames_22 : decode cX8_degradedFrames 22 = .ok (.iconst 0, 1) := by decide +kernel
theorem dX8_degradedFrames_23 : decode cX8_degradedFrames 23 = .ok (.ireturn, 1) := by decide +kernel
theorem dX8_isAhead_0 : decode cX8_isAhead 0 = .ok (.aload_n 0, 1) := by decide +kernel
theorem dX8_isAhead_1 : decode cX8_isAhead 1 = .ok (.iload_n 1, 1) := by decide +kernel
theorem dX8_isAhead_2 : decode cX8_isAhead 2 = .ok (.iconst 2, 1) := by decide +kernel
theorem dX8_isAhead_3 : decode cX8_isAhead 3 = .ok (.invokevirtual 200, 3) := by decide +kernel
theorem dX8_isAhead_6 : decode cX8_isAhead 6 = .ok (.istore_n 3, 1) := by decide +kernel
theorem dX8_isAhead_7 : decode cX8_isAhead 7 = .ok (.aload_n 0, 1) := by decide +kernel
theorem dX8_isAhead_8 : decode cX8_isAhead 8 = .ok (.iload_n 2, 1) := by decide +kernel
theorem dX8_isAhead_9 : decode cX8_isAhead 9 = .ok (.iconst 2, 1) := by decide +kernel
theorem dX8_isAhead_10 : decode cX8_isAhead 10 = .ok (.invokevirtual 200, 3) := by decide +kernel
theorem dX8_isAhead_13 : decode cX8_isAhead 13 = .ok (.istore 4, 2) := by decide +kernel
theorem dX8_isAhead_15 : decode cX8_isAhead 15 = .ok (.iload_n 3, 1) := by decide +kernel
theorem dX8_isAhead_16 : decode cX8_isAhead 16 = .ok (.iload 4, 2) := by decide +kernel
theorem dX8_isAhead_18 : decode cX8_isAhead 18 = .ok (.if_icmp .gt 14, 3) := by decide +kernel
theorem dX8_isAhead_21 : decode cX8_isAhead 21 = .ok (.iload_n 3, 1) := by decide +kernel
theorem dX8_isAhead_22 : decode cX8_isAhead 22 = .ok (.iload 4, 2) := by decide +kernel
theorem dX8_isAhead_24 : decode cX8_isAhead 24 = .ok (.if_icmp .ne 12, 3) := by decide +kernel
theorem dX8_isAhead_27 : decode cX8_isAhead 27 = .ok (.iload_n 1, 1) := by decide +kernel
theorem dX8_isAhead_28 : decode cX8_isAhead 28 = .ok (.iload_n 2, 1) := by decide +kernel
theorem dX8_isAhead_29 : decode cX8_isAhead 29 = .ok (.if_icmp .ge 7, 3) := by decide +kernel
theorem dX8_isAhead_32 : decode cX8_isAhead 32 = .ok (.iconst 1, 1) := by decide +kernel
theorem dX8_isAhead_33 : decode cX8_isAhead 33 = .ok (.goto 4, 3) := by decide +kernel
theorem dX8_isAhead_36 : decode cX8_isAhead 36 = .ok (.iconst 0, 1) := by decide +kernel
theorem dX8_isAhead_37 : decode cX8_isAhead 37 = .ok (.ireturn, 1) := by decide +kernel
theorem dX8_orders_0 : decode cX8_orders 0 = .ok (.aload_n 0, 1) := by decide +kernel
theorem dX8_orders_1 : decode cX8_orders 1 = .ok (.iconst 0, 1) := by decide +kernel
theorem dX8_orders_2 : decode cX8_orders 2 = .ok (.putfield 219, 3) := by decide +kernel
theorem dX8_orders_5 : decode cX8_orders 5 = .ok (.iconst 0, 1) := by decide +kernel
theorem dX8_orders_6 : decode cX8_orders 6 = .ok (.istore_n 2, 1) := by decide +kernel
theorem dX8_orders_7 : decode cX8_orders 7 = .ok (.iload_n 2, 1) := by decide +kernel
theorem dX8_orders_8 : decode cX8_orders 8 = .ok (.aload_n 0, 1) := by decide +kernel
theorem dX8_orders_9 : decode cX8_orders 9 = .ok (.getfield 19, 3) := by decide +kernel
theorem dX8_orders_12 : decode cX8_orders 12 = .ok (.sipush 404, 3) := by decide +kernel
theorem dX8_orders_15 : decode cX8_orders 15 = .ok (.iaload, 1) := by decide +kernel
theorem dX8_orders_16 : decode cX8_orders 16 = .ok (.if_icmp .ge 87, 3) := by decide +kernel
theorem dX8_orders_19 : decode cX8_orders 19 = .ok (.iload_n 1, 1) := by decide +kernel
theorem dX8_orders_20 : decode cX8_orders 20 = .ok (.aload_n 0, 1) := by decide +kernel
theorem dX8_orders_21 : decode cX8_orders 21 = .ok (.iload_n 2, 1) := by decide +kernel
theorem dX8_orders_22 : decode cX8_orders 22 = .ok (.iconst 5, 1) := by decide +kernel
theorem dX8_orders_23 : decode cX8_orders 23 = .ok (.invokevirtual 200, 3) := by decide +kernel
theorem dX8_orders_26 : decode cX8_orders 26 = .ok (.ishr, 1) := by decide +kernel
theorem dX8_orders_27 : decode cX8_orders 27 = .ok (.iconst 1, 1) := by decide +kernel
theorem dX8_orders_28 : decode cX8_orders 28 = .ok (.iand, 1) := by decide +kernel
theorem dX8_orders_29 : decode cX8_orders 29 = .ok (.ifCond .ne 6, 3) := by decide +kernel
theorem dX8_orders_32 : decode cX8_orders 32 = .ok (.goto 65, 3) := by decide +kernel
theorem dX8_orders_35 : decode cX8_orders 35 = .ok (.aload_n 0, 1) := by decide +kernel
theorem dX8_orders_36 : decode cX8_orders 36 = .ok (.getfield 219, 3) := by decide +kernel
theorem dX8_orders_39 : decode cX8_orders 39 = .ok (.istore_n 3, 1) := by decide +kernel
theorem dX8_orders_40 : decode cX8_orders 40 = .ok (.iload_n 3, 1) := by decide +kernel
theorem dX8_orders_41 : decode cX8_orders 41 = .ok (.ifCond .le 39, 3) := by decide +kernel
theorem dX8_orders_44 : decode cX8_orders 44 = .ok (.aload_n 0, 1) := by decide +kernel
theorem dX8_orders_45 : decode cX8_orders 45 = .ok (.iload_n 2, 1) := by decide +kernel
theorem dX8_orders_46 : decode cX8_orders 46 = .ok (.aload_n 0, 1) := by decide +kernel
theorem dX8_orders_47 : decode cX8_orders 47 = .ok (.getfield 32, 3) := by decide +kernel
theorem dX8_orders_50 : decode cX8_orders 50 = .ok (.iload_n 3, 1) := by decide +kernel
theorem dX8_orders_51 : decode cX8_orders 51 = .ok (.iconst 1, 1) := by decide +kernel
theorem dX8_orders_52 : decode cX8_orders 52 = .ok (.isub, 1) := by decide +kernel
theorem dX8_orders_53 : decode cX8_orders 53 = .ok (.iaload, 1) := by decide +kernel
theorem dX8_orders_54 : decode cX8_orders 54 = .ok (.invokevirtual 222, 3) := by decide +kernel
theorem dX8_orders_57 : decode cX8_orders 57 = .ok (.ifCond .eq 23, 3) := by decide +kernel
theorem dX8_orders_60 : decode cX8_orders 60 = .ok (.aload_n 0, 1) := by decide +kernel
theorem dX8_orders_61 : decode cX8_orders 61 = .ok (.getfield 32, 3) := by decide +kernel
theorem dX8_orders_64 : decode cX8_orders 64 = .ok (.iload_n 3, 1) := by decide +kernel
theorem dX8_orders_65 : decode cX8_orders 65 = .ok (.aload_n 0, 1) := by decide +kernel
theorem dX8_orders_66 : decode cX8_orders 66 = .ok (.getfield 32, 3) := by decide +kernel
theorem dX8_orders_69 : decode cX8_orders 69 = .ok (.iload_n 3, 1) := by decide +kernel
theorem dX8_orders_70 : decode cX8_orders 70 = .ok (.iconst 1, 1) := by decide +kernel
theorem dX8_orders_71 : decode cX8_orders 71 = .ok (.isub, 1) := by decide +kernel
theorem dX8_orders_72 : decode cX8_orders 72 = .ok (.iaload, 1) := by decide +kernel
theorem dX8_orders_73 : decode cX8_orders 73 = .ok (.iastore, 1) := by decide +kernel
theorem dX8_orders_74 : decode cX8_orders 74 = .ok (.iinc 3 (-1), 3) := by decide +kernel
theorem dX8_orders_77 : decode cX8_orders 77 = .ok (.goto (-37), 3) := by decide +kernel
theorem dX8_orders_80 : decode cX8_orders 80 = .ok (.aload_n 0, 1) := by decide +kernel
theorem dX8_orders_81 : decode cX8_orders 81 = .ok (.getfield 32, 3) := by decide +kernel
theorem dX8_orders_84 : decode cX8_orders 84 = .ok (.iload_n 3, 1) := by decide +kernel
theorem dX8_orders_85 : decode cX8_orders 85 = .ok (.iload_n 2, 1) := by decide +kernel
theorem dX8_orders_86 : decode cX8_orders 86 = .ok (.iastore, 1) := by decide +kernel
theorem dX8_orders_87 : decode cX8_orders 87 = .ok (.aload_n 0, 1) := by decide +kernel
theorem dX8_orders_88 : decode cX8_orders 88 = .ok (.dup, 1) := by decide +kernel
theorem dX8_orders_89 : decode cX8_orders 89 = .ok (.getfield 219, 3) := by decide +kernel
theorem dX8_orders_92 : decode cX8_orders 92 = .ok (.iconst 1, 1) := by decide +kernel
theorem dX8_orders_93 : decode cX8_orders 93 = .ok (.iadd, 1) := by decide +kernel
theorem dX8_orders_94 : decode cX8_orders 94 = .ok (.putfield 219, 3) := by decide +kernel
theorem dX8_orders_97 : decode cX8_orders 97 = .ok (.iinc 2 1, 3) := by decide +kernel
theorem dX8_orders_100 : decode cX8_orders 100 = .ok (.goto (-93), 3) := by decide +kernel
theorem dX8_orders_103 : decode cX8_orders 103 = .ok (.return_, 1) := by decide +kernel
theorem dX8_queuedAt_0 : decode cX8_queuedAt 0 = .ok (.aload_n 0, 1) := by decide +kernel
theorem dX8_queuedAt_1 : decode cX8_queuedAt 1 = .ok (.iconst 0, 1) := by decide +kernel
theorem dX8_queuedAt_2 : decode cX8_queuedAt 2 = .ok (.putfield 47, 3) := by decide +kernel
theorem dX8_queuedAt_5 : decode cX8_queuedAt 5 = .ok (.aload_n 0, 1) := by decide +kernel
theorem dX8_queuedAt_6 : decode cX8_queuedAt 6 = .ok (.iconst 1, 1) := by decide +kernel
theorem dX8_queuedAt_7 : decode cX8_queuedAt 7 = .ok (.invokevirtual 226, 3) := by decide +kernel
theorem dX8_queuedAt_10 : decode cX8_queuedAt 10 = .ok (.iload_n 1, 1) := by decide +kernel
theorem dX8_queuedAt_11 : decode cX8_queuedAt 11 = .ok (.ifCond .lt 20, 3) := by decide +kernel
theorem dX8_queuedAt_14 : decode cX8_queuedAt 14 = .ok (.iload_n 1, 1) := by decide +kernel
theorem dX8_queuedAt_15 : decode cX8_queuedAt 15 = .ok (.aload_n 0, 1) := by decide +kernel
theorem dX8_queuedAt_16 : decode cX8_queuedAt 16 = .ok (.getfield 219, 3) := by decide +kernel
theorem dX8_queuedAt_19 : decode cX8_queuedAt 19 = .ok (.if_icmp .ge 12, 3) := by decide +kernel
theorem dX8_queuedAt_22 : decode cX8_queuedAt 22 = .ok (.aload_n 0, 1) := by decide +kernel
theorem dX8_queuedAt_23 : decode cX8_queuedAt 23 = .ok (.getfield 32, 3) := by decide +kernel
theorem dX8_queuedAt_26 : decode cX8_queuedAt 26 = .ok (.iload_n 1, 1) := by decide +kernel
theorem dX8_queuedAt_27 : decode cX8_queuedAt 27 = .ok (.iaload, 1) := by decide +kernel
theorem dX8_queuedAt_28 : decode cX8_queuedAt 28 = .ok (.goto 4, 3) := by decide +kernel
theorem dX8_queuedAt_31 : decode cX8_queuedAt 31 = .ok (.iconst (-1), 1) := by decide +kernel
theorem dX8_queuedAt_32 : decode cX8_queuedAt 32 = .ok (.ireturn, 1) := by decide +kernel
theorem dX8_queueLength_0 : decode cX8_queueLength 0 = .ok (.aload_n 0, 1) := by decide +kernel
theorem dX8_queueLength_1 : decode cX8_queueLength 1 = .ok (.iconst 0, 1) := by decide +kernel
theorem dX8_queueLength_2 : decode cX8_queueLength 2 = .ok (.putfield 47, 3) := by decide +kernel
theorem dX8_queueLength_5 : decode cX8_queueLength 5 = .ok (.aload_n 0, 1) := by decide +kernel
theorem dX8_queueLength_6 : decode cX8_queueLength 6 = .ok (.iconst 1, 1) := by decide +kernel
theorem dX8_queueLength_7 : decode cX8_queueLength 7 = .ok (.invokevirtual 226, 3) := by decide +kernel
theorem dX8_queueLength_10 : decode cX8_queueLength 10 = .ok (.aload_n 0, 1) := by decide +kernel
theorem dX8_queueLength_11 : decode cX8_queueLength 11 = .ok (.getfield 219, 3) := by decide +kernel
theorem dX8_queueLength_14 : decode cX8_queueLength 14 = .ok (.ireturn, 1) := by decide +kernel
theorem dX8_laysBursts_0 : decode cX8_laysBursts 0 = .ok (.iconst 0, 1) := by decide +kernel
theorem dX8_laysBursts_1 : decode cX8_laysBursts 1 = .ok (.istore_n 2, 1) := by decide +kernel
theorem dX8_laysBursts_2 : decode cX8_laysBursts 2 = .ok (.iload_n 2, 1) := by decide +kernel
theorem dX8_laysBursts_3 : decode cX8_laysBursts 3 = .ok (.aload_n 0, 1) := by decide +kernel
theorem dX8_laysBursts_4 : decode cX8_laysBursts 4 = .ok (.getfield 19, 3) := by decide +kernel
theorem dX8_laysBursts_7 : decode cX8_laysBursts 7 = .ok (.sipush 404, 3) := by decide +kernel
theorem dX8_laysBursts_10 : decode cX8_laysBursts 10 = .ok (.iaload, 1) := by decide +kernel
theorem dX8_laysBursts_11 : decode cX8_laysBursts 11 = .ok (.if_icmp .ge 73, 3) := by decide +kernel
theorem dX8_laysBursts_14 : decode cX8_laysBursts 14 = .ok (.aload_n 0, 1) := by decide +kernel
theorem dX8_laysBursts_15 : decode cX8_laysBursts 15 = .ok (.iload_n 2, 1) := by decide +kernel
theorem dX8_laysBursts_16 : decode cX8_laysBursts 16 = .ok (.invokevirtual 203, 3) := by decide +kernel
theorem dX8_laysBursts_19 : decode cX8_laysBursts 19 = .ok (.ifCond .eq 15, 3) := by decide +kernel
theorem dX8_laysBursts_22 : decode cX8_laysBursts 22 = .ok (.iload_n 1, 1) := by decide +kernel
theorem dX8_laysBursts_23 : decode cX8_laysBursts 23 = .ok (.iload_n 2, 1) := by decide +kernel
theorem dX8_laysBursts_24 : decode cX8_laysBursts 24 = .ok (.ishr, 1) := by decide +kernel
theorem dX8_laysBursts_25 : decode cX8_laysBursts 25 = .ok (.iconst 1, 1) := by decide +kernel
theorem dX8_laysBursts_26 : decode cX8_laysBursts 26 = .ok (.iand, 1) := by decide +kernel
theorem dX8_laysBursts_27 : decode cX8_laysBursts 27 = .ok (.ifCond .ne 7, 3) := by decide +kernel
theorem dX8_laysBursts_30 : decode cX8_laysBursts 30 = .ok (.iconst 1, 1) := by decide +kernel
theorem dX8_laysBursts_31 : decode cX8_laysBursts 31 = .ok (.goto 4, 3) := by decide +kernel
theorem dX8_laysBursts_34 : decode cX8_laysBursts 34 = .ok (.iconst 0, 1) := by decide +kernel
theorem dX8_laysBursts_35 : decode cX8_laysBursts 35 = .ok (.istore_n 3, 1) := by decide +kernel
theorem dX8_laysBursts_36 : decode cX8_laysBursts 36 = .ok (.aload_n 0, 1) := by decide +kernel
theorem dX8_laysBursts_37 : decode cX8_laysBursts 37 = .ok (.getfield 35, 3) := by decide +kernel
theorem dX8_laysBursts_40 : decode cX8_laysBursts 40 = .ok (.iload_n 2, 1) := by decide +kernel
theorem dX8_laysBursts_41 : decode cX8_laysBursts 41 = .ok (.iload_n 3, 1) := by decide +kernel
theorem dX8_laysBursts_42 : decode cX8_laysBursts 42 = .ok (.ifCond .eq 13, 3) := by decide +kernel
theorem dX8_laysBursts_45 : decode cX8_laysBursts 45 = .ok (.aload_n 0, 1) := by decide +kernel
theorem dX8_laysBursts_46 : decode cX8_laysBursts 46 = .ok (.iload_n 2, 1) := by decide +kernel
theorem dX8_laysBursts_47 : decode cX8_laysBursts 47 = .ok (.bipush 6, 2) := by decide +kernel
theorem dX8_laysBursts_49 : decode cX8_laysBursts 49 = .ok (.invokevirtual 200, 3) := by decide +kernel
theorem dX8_laysBursts_52 : decode cX8_laysBursts 52 = .ok (.goto 4, 3) := by decide +kernel
theorem dX8_laysBursts_55 : decode cX8_laysBursts 55 = .ok (.iconst (-1), 1) := by decide +kernel
theorem dX8_laysBursts_56 : decode cX8_laysBursts 56 = .ok (.iastore, 1) := by decide +kernel
theorem dX8_laysBursts_57 : decode cX8_laysBursts 57 = .ok (.aload_n 0, 1) := by decide +kernel
theorem dX8_laysBursts_58 : decode cX8_laysBursts 58 = .ok (.getfield 38, 3) := by decide +kernel
theorem dX8_laysBursts_61 : decode cX8_laysBursts 61 = .ok (.iload_n 2, 1) := by decide +kernel
theorem dX8_laysBursts_62 : decode cX8_laysBursts 62 = .ok (.iload_n 3, 1) := by decide +kernel
theorem dX8_laysBursts_63 : decode cX8_laysBursts 63 = .ok (.ifCond .eq 13, 3) := by decide +kernel
theorem dX8_laysBursts_66 : decode cX8_laysBursts 66 = .ok (.aload_n 0, 1) := by decide +kernel
theorem dX8_laysBursts_67 : decode cX8_laysBursts 67 = .ok (.iload_n 2, 1) := by decide +kernel
theorem dX8_laysBursts_68 : decode cX8_laysBursts 68 = .ok (.bipush 7, 2) := by decide +kernel
theorem dX8_laysBursts_70 : decode cX8_laysBursts 70 = .ok (.invokevirtual 200, 3) := by decide +kernel
theorem dX8_laysBursts_73 : decode cX8_laysBursts 73 = .ok (.goto 4, 3) := by decide +kernel
theorem dX8_laysBursts_76 : decode cX8_laysBursts 76 = .ok (.iconst (-1), 1) := by decide +kernel
theorem dX8_laysBursts_77 : decode cX8_laysBursts 77 = .ok (.iastore, 1) := by decide +kernel
theorem dX8_laysBursts_78 : decode cX8_laysBursts 78 = .ok (.iinc 2 1, 3) := by decide +kernel
theorem dX8_laysBursts_81 : decode cX8_laysBursts 81 = .ok (.goto (-79), 3) := by decide +kernel
theorem dX8_laysBursts_84 : decode cX8_laysBursts 84 = .ok (.return_, 1) := by decide +kernel
theorem dX8_isFree_0 : decode cX8_isFree 0 = .ok (.aload_n 0, 1) := by decide +kernel
theorem dX8_isFree_1 : decode cX8_isFree 1 = .ok (.getfield 19, 3) := by decide +kernel
theorem dX8_isFree_4 : decode cX8_isFree 4 = .ok (.iconst 2, 1) := by decide +kernel
theorem dX8_isFree_5 : decode cX8_isFree 5 = .ok (.iaload, 1) := by decide +kernel
theorem dX8_isFree_6 : decode cX8_isFree 6 = .ok (.istore 4, 2) := by decide +kernel
theorem dX8_isFree_8 : decode cX8_isFree 8 = .ok (.iload_n 3, 1) := by decide +kernel
theorem dX8_isFree_9 : decode cX8_isFree 9 = .ok (.aload_n 0, 1) := by decide +kernel
theorem dX8_isFree_10 : decode cX8_isFree 10 = .ok (.iload_n 1, 1) := by decide +kernel
theorem dX8_isFree_11 : decode cX8_isFree 11 = .ok (.invokevirtual 209, 3) := by decide +kernel
theorem dX8_isFree_14 : decode cX8_isFree 14 = .ok (.iadd, 1) := by decide +kernel
theorem dX8_isFree_15 : decode cX8_isFree 15 = .ok (.istore 5, 2) := by decide +kernel
theorem dX8_isFree_17 : decode cX8_isFree 17 = .ok (.iload 5, 2) := by decide +kernel
theorem dX8_isFree_19 : decode cX8_isFree 19 = .ok (.iload 4, 2) := by decide +kernel
theorem dX8_isFree_21 : decode cX8_isFree 21 = .ok (.iadd, 1) := by decide +kernel
theorem dX8_isFree_22 : decode cX8_isFree 22 = .ok (.aload_n 0, 1) := by decide +kernel
theorem dX8_isFree_23 : decode cX8_isFree 23 = .ok (.getfield 19, 3) := by decide +kernel
theorem dX8_isFree_26 : decode cX8_isFree 26 = .ok (.iconst 1, 1) := by decide +kernel
theorem dX8_isFree_27 : decode cX8_isFree 27 = .ok (.iaload, 1) := by decide +kernel
theorem dX8_isFree_28 : decode cX8_isFree 28 = .ok (.if_icmp .le 5, 3) := by decide +kernel
theorem dX8_isFree_31 : decode cX8_isFree 31 = .ok (.iconst 0, 1) := by decide +kernel
theorem dX8_isFree_32 : decode cX8_isFree 32 = .ok (.ireturn, 1) := by decide +kernel
theorem dX8_isFree_33 : decode cX8_isFree 33 = .ok (.iconst 0, 1) := by decide +kernel
theorem dX8_isFree_34 : decode cX8_isFree 34 = .ok (.istore 6, 2) := by decide +kernel
theorem dX8_isFree_36 : decode cX8_isFree 36 = .ok (.iload 6, 2) := by decide +kernel
theorem dX8_isFree_38 : decode cX8_isFree 38 = .ok (.aload_n 0, 1) := by decide +kernel
theorem dX8_isFree_39 : decode cX8_isFree 39 = .ok (.getfield 19, 3) := by decide +kernel
theorem dX8_isFree_42 : decode cX8_isFree 42 = .ok (.sipush 404, 3) := by decide +kernel
theorem dX8_isFree_45 : decode cX8_isFree 45 = .ok (.iaload, 1) := by decide +kernel
theorem dX8_isFree_46 : decode cX8_isFree 46 = .ok (.if_icmp .ge 116, 3) := by decide +kernel
theorem dX8_isFree_49 : decode cX8_isFree 49 = .ok (.aload_n 0, 1) := by decide +kernel
theorem dX8_isFree_50 : decode cX8_isFree 50 = .ok (.getfield 35, 3) := by decide +kernel
theorem dX8_isFree_53 : decode cX8_isFree 53 = .ok (.iload 6, 2) := by decide +kernel
theorem dX8_isFree_55 : decode cX8_isFree 55 = .ok (.iaload, 1) := by decide +kernel
theorem dX8_isFree_56 : decode cX8_isFree 56 = .ok (.iconst (-1), 1) := by decide +kernel
theorem dX8_isFree_57 : decode cX8_isFree 57 = .ok (.if_icmp .ne 6, 3) := by decide +kernel
theorem dX8_isFree_60 : decode cX8_isFree 60 = .ok (.goto 96, 3) := by decide +kernel
theorem dX8_isFree_63 : decode cX8_isFree 63 = .ok (.aload_n 0, 1) := by decide +kernel
theorem dX8_isFree_64 : decode cX8_isFree 64 = .ok (.getfield 35, 3) := by decide +kernel
theorem dX8_isFree_67 : decode cX8_isFree 67 = .ok (.iload 6, 2) := by decide +kernel
theorem dX8_isFree_69 : decode cX8_isFree 69 = .ok (.iaload, 1) := by decide +kernel
theorem dX8_isFree_70 : decode cX8_isFree 70 = .ok (.iload_n 2, 1) := by decide +kernel
theorem dX8_isFree_71 : decode cX8_isFree 71 = .ok (.if_icmp .eq 35, 3) := by decide +kernel
theorem dX8_isFree_74 : decode cX8_isFree 74 = .ok (.aload_n 0, 1) := by decide +kernel
theorem dX8_isFree_75 : decode cX8_isFree 75 = .ok (.iload 6, 2) := by decide +kernel
theorem dX8_isFree_77 : decode cX8_isFree 77 = .ok (.iconst 0, 1) := by decide +kernel
theorem dX8_isFree_78 : decode cX8_isFree 78 = .ok (.invokevirtual 200, 3) := by decide +kernel
theorem dX8_isFree_81 : decode cX8_isFree 81 = .ok (.aload_n 0, 1) := by decide +kernel
theorem dX8_isFree_82 : decode cX8_isFree 82 = .ok (.iload_n 1, 1) := by decide +kernel
theorem dX8_isFree_83 : decode cX8_isFree 83 = .ok (.iconst 0, 1) := by decide +kernel
theorem dX8_isFree_84 : decode cX8_isFree 84 = .ok (.invokevirtual 200, 3) := by decide +kernel
theorem dX8_isFree_87 : decode cX8_isFree 87 = .ok (.if_icmp .eq 19, 3) := by decide +kernel
theorem dX8_isFree_90 : decode cX8_isFree 90 = .ok (.aload_n 0, 1) := by decide +kernel
theorem dX8_isFree_91 : decode cX8_isFree 91 = .ok (.iload 6, 2) := by decide +kernel
theorem dX8_isFree_93 : decode cX8_isFree 93 = .ok (.iconst 1, 1) := by decide +kernel
theorem dX8_isFree_94 : decode cX8_isFree 94 = .ok (.invokevirtual 200, 3) := by decide +kernel
theorem dX8_isFree_97 : decode cX8_isFree 97 = .ok (.aload_n 0, 1) := by decide +kernel
theorem dX8_isFree_98 : decode cX8_isFree 98 = .ok (.iload_n 1, 1) := by decide +kernel
theorem dX8_isFree_99 : decode cX8_isFree 99 = .ok (.iconst 1, 1) := by decide +kernel
theorem dX8_isFree_100 : decode cX8_isFree 100 = .ok (.invokevirtual 200, 3) := by decide +kernel
theorem dX8_isFree_103 : decode cX8_isFree 103 = .ok (.if_icmp .ne 7, 3) := by decide +kernel
theorem dX8_isFree_106 : decode cX8_isFree 106 = .ok (.iconst 1, 1) := by decide +kernel
theorem dX8_isFree_107 : decode cX8_isFree 107 = .ok (.goto 4, 3) := by decide +kernel
theorem dX8_isFree_110 : decode cX8_isFree 110 = .ok (.iconst 0, 1) := by decide +kernel
theorem dX8_isFree_111 : decode cX8_isFree 111 = .ok (.istore 7, 2) := by decide +kernel
theorem dX8_isFree_113 : decode cX8_isFree 113 = .ok (.iload 7, 2) := by decide +kernel
theorem dX8_isFree_115 : decode cX8_isFree 115 = .ok (.ifCond .eq 41, 3) := by decide +kernel
theorem dX8_isFree_118 : decode cX8_isFree 118 = .ok (.iload_n 3, 1) := by decide +kernel
theorem dX8_isFree_119 : decode cX8_isFree 119 = .ok (.aload_n 0, 1) := by decide +kernel
theorem dX8_isFree_120 : decode cX8_isFree 120 = .ok (.getfield 38, 3) := by decide +kernel
theorem dX8_isFree_123 : decode cX8_isFree 123 = .ok (.iload 6, 2) := by decide +kernel
theorem dX8_isFree_125 : decode cX8_isFree 125 = .ok (.iaload, 1) := by decide +kernel
theorem dX8_isFree_126 : decode cX8_isFree 126 = .ok (.aload_n 0, 1) := by decide +kernel
theorem dX8_isFree_127 : decode cX8_isFree 127 = .ok (.iload 6, 2) := by decide +kernel
theorem dX8_isFree_129 : decode cX8_isFree 129 = .ok (.invokevirtual 209, 3) := by decide +kernel
theorem dX8_isFree_132 : decode cX8_isFree 132 = .ok (.iadd, 1) := by decide +kernel
theorem dX8_isFree_133 : decode cX8_isFree 133 = .ok (.iload 4, 2) := by decide +kernel
theorem dX8_isFree_135 : decode cX8_isFree 135 = .ok (.iadd, 1) := by decide +kernel
theorem dX8_isFree_136 : decode cX8_isFree 136 = .ok (.if_icmp .ge 20, 3) := by decide +kernel
theorem dX8_isFree_139 : decode cX8_isFree 139 = .ok (.aload_n 0, 1) := by decide +kernel
theorem dX8_isFree_140 : decode cX8_isFree 140 = .ok (.getfield 38, 3) := by decide +kernel
theorem dX8_isFree_143 : decode cX8_isFree 143 = .ok (.iload 6, 2) := by decide +kernel
theorem dX8_isFree_145 : decode cX8_isFree 145 = .ok (.iaload, 1) := by decide +kernel
theorem dX8_isFree_146 : decode cX8_isFree 146 = .ok (.iload 5, 2) := by decide +kernel
theorem dX8_isFree_148 : decode cX8_isFree 148 = .ok (.iload 4, 2) := by decide +kernel
theorem dX8_isFree_150 : decode cX8_isFree 150 = .ok (.iadd, 1) := by decide +kernel
theorem dX8_isFree_151 : decode cX8_isFree 151 = .ok (.if_icmp .ge 5, 3) := by decide +kernel
theorem dX8_isFree_154 : decode cX8_isFree 154 = .ok (.iconst 0, 1) := by decide +kernel
theorem dX8_isFree_155 : decode cX8_isFree 155 = .ok (.ireturn, 1) := by decide +kernel
theorem dX8_isFree_156 : decode cX8_isFree 156 = .ok (.iinc 6 1, 3) := by decide +kernel
theorem dX8_isFree_159 : decode cX8_isFree 159 = .ok (.goto (-123), 3) := by decide +kernel
theorem dX8_isFree_162 : decode cX8_isFree 162 = .ok (.iconst 1, 1) := by decide +kernel
theorem dX8_isFree_163 : decode cX8_isFree 163 = .ok (.ireturn, 1) := by decide +kernel
theorem dX8_triesStart_0 : decode cX8_triesStart 0 = .ok (.iconst 0, 1) := by decide +kernel
theorem dX8_triesStart_1 : decode cX8_triesStart 1 = .ok (.istore_n 3, 1) := by decide +kernel
theorem dX8_triesStart_2 : decode cX8_triesStart 2 = .ok (.iload_n 3, 1) := by decide +kernel
theorem dX8_triesStart_3 : decode cX8_triesStart 3 = .ok (.aload_n 0, 1) := by decide +kernel
theorem dX8_triesStart_4 : decode cX8_triesStart 4 = .ok (.getfield 138, 3) := by decide +kernel
theorem dX8_triesStart_7 : decode cX8_triesStart 7 = .ok (.if_icmp .ge 76, 3) := by decide +kernel
theorem dX8_triesStart_10 : decode cX8_triesStart 10 = .ok (.aload_n 0, 1) := by decide +kernel
theorem dX8_triesStart_11 : decode cX8_triesStart 11 = .ok (.getfield 230, 3) := by decide +kernel
theorem dX8_triesStart_14 : decode cX8_triesStart 14 = .ok (.iconst (-1), 1) := by decide +kernel
theorem dX8_triesStart_15 : decode cX8_triesStart 15 = .ok (.if_icmp .eq 27, 3) := by decide +kernel
theorem dX8_triesStart_18 : decode cX8_triesStart 18 = .ok (.iload_n 2, 1) := by decide +kernel
theorem dX8_triesStart_19 : decode cX8_triesStart 19 = .ok (.aload_n 0, 1) := by decide +kernel
theorem dX8_triesStart_20 : decode cX8_triesStart 20 = .ok (.getfield 233, 3) := by decide +kernel
theorem dX8_triesStart_23 : decode cX8_triesStart 23 = .ok (.if_icmp .lt 19, 3) := by decide +kernel
theorem dX8_triesStart_26 : decode cX8_triesStart 26 = .ok (.iload_n 2, 1) := by decide +kernel
theorem dX8_triesStart_27 : decode cX8_triesStart 27 = .ok (.aload_n 0, 1) := by decide +kernel
theorem dX8_triesStart_28 : decode cX8_triesStart 28 = .ok (.getfield 233, 3) := by decide +kernel
theorem dX8_triesStart_31 : decode cX8_triesStart 31 = .ok (.if_icmp .ne 15, 3) := by decide +kernel
theorem dX8_triesStart_34 : decode cX8_triesStart 34 = .ok (.iload_n 3, 1) := by decide +kernel
theorem dX8_triesStart_35 : decode cX8_triesStart 35 = .ok (.aload_n 0, 1) := by decide +kernel
theorem dX8_triesStart_36 : decode cX8_triesStart 36 = .ok (.getfield 230, 3) := by decide +kernel
theorem dX8_triesStart_39 : decode cX8_triesStart 39 = .ok (.if_icmp .ge 7, 3) := by decide +kernel
theorem dX8_triesStart_42 : decode cX8_triesStart 42 = .ok (.iconst 1, 1) := by decide +kernel
theorem dX8_triesStart_43 : decode cX8_triesStart 43 = .ok (.goto 4, 3) := by decide +kernel
theorem dX8_triesStart_46 : decode cX8_triesStart 46 = .ok (.iconst 0, 1) := by decide +kernel
theorem dX8_triesStart_47 : decode cX8_triesStart 47 = .ok (.istore 4, 2) := by decide +kernel
theorem dX8_triesStart_49 : decode cX8_triesStart 49 = .ok (.iload 4, 2) := by decide +kernel
theorem dX8_triesStart_51 : decode cX8_triesStart 51 = .ok (.ifCond .eq 26, 3) := by decide +kernel
theorem dX8_triesStart_54 : decode cX8_triesStart 54 = .ok (.aload_n 0, 1) := by decide +kernel
theorem dX8_triesStart_55 : decode cX8_triesStart 55 = .ok (.iload_n 1, 1) := by decide +kernel
theorem dX8_triesStart_56 : decode cX8_triesStart 56 = .ok (.iload_n 3, 1) := by decide +kernel
theorem dX8_triesStart_57 : decode cX8_triesStart 57 = .ok (.iload_n 2, 1) := by decide +kernel
theorem dX8_triesStart_58 : decode cX8_triesStart 58 = .ok (.invokevirtual 236, 3) := by decide +kernel
theorem dX8_triesStart_61 : decode cX8_triesStart 61 = .ok (.ifCond .ne 6, 3) := by decide +kernel
theorem dX8_triesStart_64 : decode cX8_triesStart 64 = .ok (.goto 13, 3) := by decide +kernel
theorem dX8_triesStart_67 : decode cX8_triesStart 67 = .ok (.aload_n 0, 1) := by decide +kernel
theorem dX8_triesStart_68 : decode cX8_triesStart 68 = .ok (.iload_n 3, 1) := by decide +kernel
theorem dX8_triesStart_69 : decode cX8_triesStart 69 = .ok (.putfield 230, 3) := by decide +kernel
theorem dX8_triesStart_72 : decode cX8_triesStart 72 = .ok (.aload_n 0, 1) := by decide +kernel
theorem dX8_triesStart_73 : decode cX8_triesStart 73 = .ok (.iload_n 2, 1) := by decide +kernel
theorem dX8_triesStart_74 : decode cX8_triesStart 74 = .ok (.putfield 233, 3) := by decide +kernel
theorem dX8_triesStart_77 : decode cX8_triesStart 77 = .ok (.iinc 3 1, 3) := by decide +kernel
theorem dX8_triesStart_80 : decode cX8_triesStart 80 = .ok (.goto (-78), 3) := by decide +kernel
theorem dX8_triesStart_83 : decode cX8_triesStart 83 = .ok (.return_, 1) := by decide +kernel
theorem dX8_finds_0 : decode cX8_finds 0 = .ok (.aload_n 0, 1) := by decide +kernel
theorem dX8_finds_1 : decode cX8_finds 1 = .ok (.iconst (-1), 1) := by decide +kernel
theorem dX8_finds_2 : decode cX8_finds 2 = .ok (.putfield 230, 3) := by decide +kernel
theorem dX8_finds_5 : decode cX8_finds 5 = .ok (.aload_n 0, 1) := by decide +kernel
theorem dX8_finds_6 : decode cX8_finds 6 = .ok (.iconst (-1), 1) := by decide +kernel
theorem dX8_finds_7 : decode cX8_finds 7 = .ok (.putfield 233, 3) := by decide +kernel
theorem dX8_finds_10 : decode cX8_finds 10 = .ok (.aload_n 0, 1) := by decide +kernel
theorem dX8_finds_11 : decode cX8_finds 11 = .ok (.getfield 19, 3) := by decide +kernel
theorem dX8_finds_14 : decode cX8_finds 14 = .ok (.iconst 3, 1) := by decide +kernel
theorem dX8_finds_15 : decode cX8_finds 15 = .ok (.iaload, 1) := by decide +kernel
theorem dX8_finds_16 : decode cX8_finds 16 = .ok (.aload_n 0, 1) := by decide +kernel
theorem dX8_finds_17 : decode cX8_finds 17 = .ok (.getfield 19, 3) := by decide +kernel
theorem dX8_finds_20 : decode cX8_finds 20 = .ok (.iconst 2, 1) := by decide +kernel
theorem dX8_finds_21 : decode cX8_finds 21 = .ok (.iaload, 1) := by decide +kernel
theorem dX8_finds_22 : decode cX8_finds 22 = .ok (.iadd, 1) := by decide +kernel
theorem dX8_finds_23 : decode cX8_finds 23 = .ok (.istore_n 2, 1) := by decide +kernel
theorem dX8_finds_24 : decode cX8_finds 24 = .ok (.aload_n 0, 1) := by decide +kernel
theorem dX8_finds_25 : decode cX8_finds 25 = .ok (.iload_n 1, 1) := by decide +kernel
theorem dX8_finds_26 : decode cX8_finds 26 = .ok (.iload_n 2, 1) := by decide +kernel
theorem dX8_finds_27 : decode cX8_finds 27 = .ok (.invokevirtual 240, 3) := by decide +kernel
theorem dX8_finds_30 : decode cX8_finds 30 = .ok (.iconst 0, 1) := by decide +kernel
theorem dX8_finds_31 : decode cX8_finds 31 = .ok (.istore_n 3, 1) := by decide +kernel
theorem dX8_finds_32 : decode cX8_finds 32 = .ok (.iload_n 3, 1) := by decide +kernel
theorem dX8_finds_33 : decode cX8_finds 33 = .ok (.aload_n 0, 1) := by decide +kernel
theorem dX8_finds_34 : decode cX8_finds 34 = .ok (.getfield 19, 3) := by decide +kernel
theorem dX8_finds_37 : decode cX8_finds 37 = .ok (.sipush 404, 3) := by decide +kernel
theorem dX8_finds_40 : decode cX8_finds 40 = .ok (.iaload, 1) := by decide +kernel
theorem dX8_finds_41 : decode cX8_finds 41 = .ok (.if_icmp .ge 57, 3) := by decide +kernel
theorem dX8_finds_44 : decode cX8_finds 44 = .ok (.aload_n 0, 1) := by decide +kernel
theorem dX8_finds_45 : decode cX8_finds 45 = .ok (.getfield 35, 3) := by decide +kernel
theorem dX8_finds_48 : decode cX8_finds 48 = .ok (.iload_n 3, 1) := by decide +kernel
theorem dX8_finds_49 : decode cX8_finds 49 = .ok (.iaload, 1) := by decide +kernel
theorem dX8_finds_50 : decode cX8_finds 50 = .ok (.iconst (-1), 1) := by decide +kernel
theorem dX8_finds_51 : decode cX8_finds 51 = .ok (.if_icmp .ne 7, 3) := by decide +kernel
theorem dX8_finds_54 : decode cX8_finds 54 = .ok (.iload_n 2, 1) := by decide +kernel
theorem dX8_finds_55 : decode cX8_finds 55 = .ok (.goto 22, 3) := by decide +kernel
theorem dX8_finds_58 : decode cX8_finds 58 = .ok (.aload_n 0, 1) := by decide +kernel
theorem dX8_finds_59 : decode cX8_finds 59 = .ok (.getfield 38, 3) := by decide +kernel
theorem dX8_finds_62 : decode cX8_finds 62 = .ok (.iload_n 3, 1) := by decide +kernel
theorem dX8_finds_63 : decode cX8_finds 63 = .ok (.iaload, 1) := by decide +kernel
theorem dX8_finds_64 : decode cX8_finds 64 = .ok (.aload_n 0, 1) := by decide +kernel
theorem dX8_finds_65 : decode cX8_finds 65 = .ok (.iload_n 3, 1) := by decide +kernel
theorem dX8_finds_66 : decode cX8_finds 66 = .ok (.invokevirtual 209, 3) := by decide +kernel
theorem dX8_finds_69 : decode cX8_finds 69 = .ok (.iadd, 1) := by decide +kernel
theorem dX8_finds_70 : decode cX8_finds 70 = .ok (.aload_n 0, 1) := by decide +kernel
theorem dX8_finds_71 : decode cX8_finds 71 = .ok (.getfield 19, 3) := by decide +kernel
theorem dX8_finds_74 : decode cX8_finds 74 = .ok (.iconst 2, 1) := by decide +kernel
theorem dX8_finds_75 : decode cX8_finds 75 = .ok (.iaload, 1) := by decide +kernel
theorem dX8_finds_76 : decode cX8_finds 76 = .ok (.iadd, 1) := by decide +kernel
theorem dX8_finds_77 : decode cX8_finds 77 = .ok (.istore 4, 2) := by decide +kernel
theorem dX8_finds_79 : decode cX8_finds 79 = .ok (.iload 4, 2) := by decide +kernel
theorem dX8_finds_81 : decode cX8_finds 81 = .ok (.iload_n 2, 1) := by decide +kernel
theorem dX8_finds_82 : decode cX8_finds 82 = .ok (.if_icmp .le 10, 3) := by decide +kernel
theorem dX8_finds_85 : decode cX8_finds 85 = .ok (.aload_n 0, 1) := by decide +kernel
theorem dX8_finds_86 : decode cX8_finds 86 = .ok (.iload_n 1, 1) := by decide +kernel
theorem dX8_finds_87 : decode cX8_finds 87 = .ok (.iload 4, 2) := by decide +kernel
theorem dX8_finds_89 : decode cX8_finds 89 = .ok (.invokevirtual 240, 3) := by decide +kernel
theorem dX8_finds_92 : decode cX8_finds 92 = .ok (.iinc 3 1, 3) := by decide +kernel
theorem dX8_finds_95 : decode cX8_finds 95 = .ok (.goto (-63), 3) := by decide +kernel
theorem dX8_finds_98 : decode cX8_finds 98 = .ok (.aload_n 0, 1) := by decide +kernel
theorem dX8_finds_99 : decode cX8_finds 99 = .ok (.getfield 230, 3) := by decide +kernel
theorem dX8_finds_102 : decode cX8_finds 102 = .ok (.iconst (-1), 1) := by decide +kernel
theorem dX8_finds_103 : decode cX8_finds 103 = .ok (.if_icmp .eq 7, 3) := by decide +kernel
theorem dX8_finds_106 : decode cX8_finds 106 = .ok (.iconst 1, 1) := by decide +kernel
theorem dX8_finds_107 : decode cX8_finds 107 = .ok (.goto 4, 3) := by decide +kernel
theorem dX8_finds_110 : decode cX8_finds 110 = .ok (.iconst 0, 1) := by decide +kernel
theorem dX8_finds_111 : decode cX8_finds 111 = .ok (.ireturn, 1) := by decide +kernel
theorem dX8_asks_0 : decode cX8_asks 0 = .ok (.aload_n 0, 1) := by decide +kernel
theorem dX8_asks_1 : decode cX8_asks 1 = .ok (.getfield 19, 3) := by decide +kernel
theorem dX8_asks_4 : decode cX8_asks 4 = .ok (.sipush 404, 3) := by decide +kernel
theorem dX8_asks_7 : decode cX8_asks 7 = .ok (.iaload, 1) := by decide +kernel
theorem dX8_asks_8 : decode cX8_asks 8 = .ok (.istore 6, 2) := by decide +kernel
theorem dX8_asks_10 : decode cX8_asks 10 = .ok (.aload_n 0, 1) := by decide +kernel
theorem dX8_asks_11 : decode cX8_asks 11 = .ok (.iload 6, 2) := by decide +kernel
theorem dX8_asks_13 : decode cX8_asks 13 = .ok (.iconst 0, 1) := by decide +kernel
theorem dX8_asks_14 : decode cX8_asks 14 = .ok (.iload_n 1, 1) := by decide +kernel
theorem dX8_asks_15 : decode cX8_asks 15 = .ok (.invokevirtual 244, 3) := by decide +kernel
theorem dX8_asks_18 : decode cX8_asks 18 = .ok (.aload_n 0, 1) := by decide +kernel
theorem dX8_asks_19 : decode cX8_asks 19 = .ok (.iload 6, 2) := by decide +kernel
theorem dX8_asks_21 : decode cX8_asks 21 = .ok (.iconst 1, 1) := by decide +kernel
theorem dX8_asks_22 : decode cX8_asks 22 = .ok (.iload_n 2, 1) := by decide +kernel
theorem dX8_asks_23 : decode cX8_asks 23 = .ok (.invokevirtual 244, 3) := by decide +kernel
theorem dX8_asks_26 : decode cX8_asks 26 = .ok (.aload_n 0, 1) := by decide +kernel
theorem dX8_asks_27 : decode cX8_asks 27 = .ok (.iload 6, 2) := by decide +kernel
theorem dX8_asks_29 : decode cX8_asks 29 = .ok (.iconst 2, 1) := by decide +kernel
theorem dX8_asks_30 : decode cX8_asks 30 = .ok (.iload_n 3, 1) := by decide +kernel
theorem dX8_asks_31 : decode cX8_asks 31 = .ok (.invokevirtual 244, 3) := by decide +kernel
theorem dX8_asks_34 : decode cX8_asks 34 = .ok (.aload_n 0, 1) := by decide +kernel
theorem dX8_asks_35 : decode cX8_asks 35 = .ok (.iload 6, 2) := by decide +kernel
theorem dX8_asks_37 : decode cX8_asks 37 = .ok (.iconst 3, 1) := by decide +kernel
theorem dX8_asks_38 : decode cX8_asks 38 = .ok (.iload 4, 2) := by decide +kernel
theorem dX8_asks_40 : decode cX8_asks 40 = .ok (.invokevirtual 244, 3) := by decide +kernel
theorem dX8_asks_43 : decode cX8_asks 43 = .ok (.aload_n 0, 1) := by decide +kernel
theorem dX8_asks_44 : decode cX8_asks 44 = .ok (.iload 6, 2) := by decide +kernel
theorem dX8_asks_46 : decode cX8_asks 46 = .ok (.iconst 4, 1) := by decide +kernel
theorem dX8_asks_47 : decode cX8_asks 47 = .ok (.iload 5, 2) := by decide +kernel
theorem dX8_asks_49 : decode cX8_asks 49 = .ok (.invokevirtual 244, 3) := by decide +kernel
theorem dX8_asks_52 : decode cX8_asks 52 = .ok (.aload_n 0, 1) := by decide +kernel
theorem dX8_asks_53 : decode cX8_asks 53 = .ok (.iload 6, 2) := by decide +kernel
theorem dX8_asks_55 : decode cX8_asks 55 = .ok (.iconst 5, 1) := by decide +kernel
theorem dX8_asks_56 : decode cX8_asks 56 = .ok (.iconst 0, 1) := by decide +kernel
theorem dX8_asks_57 : decode cX8_asks 57 = .ok (.invokevirtual 244, 3) := by decide +kernel
theorem dX8_asks_60 : decode cX8_asks 60 = .ok (.aload_n 0, 1) := by decide +kernel
theorem dX8_asks_61 : decode cX8_asks 61 = .ok (.iload 6, 2) := by decide +kernel
theorem dX8_asks_63 : decode cX8_asks 63 = .ok (.bipush 9, 2) := by decide +kernel
theorem dX8_asks_65 : decode cX8_asks 65 = .ok (.aload_n 0, 1) := by decide +kernel
theorem dX8_asks_66 : decode cX8_asks 66 = .ok (.getfield 19, 3) := by decide +kernel
theorem dX8_asks_69 : decode cX8_asks 69 = .ok (.iconst 0, 1) := by decide +kernel
theorem dX8_asks_70 : decode cX8_asks 70 = .ok (.iaload, 1) := by decide +kernel
theorem dX8_asks_71 : decode cX8_asks 71 = .ok (.invokevirtual 244, 3) := by decide +kernel
theorem dX8_asks_74 : decode cX8_asks 74 = .ok (.aload_n 0, 1) := by decide +kernel
theorem dX8_asks_75 : decode cX8_asks 75 = .ok (.iload 6, 2) := by decide +kernel
theorem dX8_asks_77 : decode cX8_asks 77 = .ok (.bipush 10, 2) := by decide +kernel
theorem dX8_asks_79 : decode cX8_asks 79 = .ok (.iconst (-1), 1) := by decide +kernel
theorem dX8_asks_80 : decode cX8_asks 80 = .ok (.invokevirtual 244, 3) := by decide +kernel
theorem dX8_asks_83 : decode cX8_asks 83 = .ok (.aload_n 0, 1) := by decide +kernel
theorem dX8_asks_84 : decode cX8_asks 84 = .ok (.iload 6, 2) := by decide +kernel
theorem dX8_asks_86 : decode cX8_asks 86 = .ok (.bipush 11, 2) := by decide +kernel
theorem dX8_asks_88 : decode cX8_asks 88 = .ok (.iconst 0, 1) := by decide +kernel
theorem dX8_asks_89 : decode cX8_asks 89 = .ok (.invokevirtual 244, 3) := by decide +kernel
theorem dX8_asks_92 : decode cX8_asks 92 = .ok (.aload_n 0, 1) := by decide +kernel
theorem dX8_asks_93 : decode cX8_asks 93 = .ok (.getfield 19, 3) := by decide +kernel
theorem dX8_asks_96 : decode cX8_asks 96 = .ok (.sipush 404, 3) := by decide +kernel
theorem dX8_asks_99 : decode cX8_asks 99 = .ok (.dup2, 1) := by decide +kernel
theorem dX8_asks_100 : decode cX8_asks 100 = .ok (.iaload, 1) := by decide +kernel
theorem dX8_asks_101 : decode cX8_asks 101 = .ok (.iconst 1, 1) := by decide +kernel
theorem dX8_asks_102 : decode cX8_asks 102 = .ok (.iadd, 1) := by decide +kernel
theorem dX8_asks_103 : decode cX8_asks 103 = .ok (.iastore, 1) := by decide +kernel
theorem dX8_asks_104 : decode cX8_asks 104 = .ok (.iload 6, 2) := by decide +kernel
theorem dX8_asks_106 : decode cX8_asks 106 = .ok (.ireturn, 1) := by decide +kernel
theorem dX8_assigns_0 : decode cX8_assigns 0 = .ok (.aload_n 0, 1) := by decide +kernel
theorem dX8_assigns_1 : decode cX8_assigns 1 = .ok (.iconst 0, 1) := by decide +kernel
theorem dX8_assigns_2 : decode cX8_assigns 2 = .ok (.invokevirtual 248, 3) := by decide +kernel
theorem dX8_assigns_5 : decode cX8_assigns 5 = .ok (.aload_n 0, 1) := by decide +kernel
theorem dX8_assigns_6 : decode cX8_assigns 6 = .ok (.iload_n 1, 1) := by decide +kernel
theorem dX8_assigns_7 : decode cX8_assigns 7 = .ok (.invokevirtual 251, 3) := by decide +kernel
theorem dX8_assigns_10 : decode cX8_assigns 10 = .ok (.ifCond .ne 5, 3) := by decide +kernel
theorem dX8_assigns_13 : decode cX8_assigns 13 = .ok (.iconst 0, 1) := by decide +kernel
theorem dX8_assigns_14 : decode cX8_assigns 14 = .ok (.ireturn, 1) := by decide +kernel
theorem dX8_assigns_15 : decode cX8_assigns 15 = .ok (.aload_n 0, 1) := by decide +kernel
theorem dX8_assigns_16 : decode cX8_assigns 16 = .ok (.iload_n 1, 1) := by decide +kernel
theorem dX8_assigns_17 : decode cX8_assigns 17 = .ok (.iconst 5, 1) := by decide +kernel
theorem dX8_assigns_18 : decode cX8_assigns 18 = .ok (.iconst 1, 1) := by decide +kernel
theorem dX8_assigns_19 : decode cX8_assigns 19 = .ok (.invokevirtual 244, 3) := by decide +kernel
theorem dX8_assigns_22 : decode cX8_assigns 22 = .ok (.aload_n 0, 1) := by decide +kernel
theorem dX8_assigns_23 : decode cX8_assigns 23 = .ok (.iload_n 1, 1) := by decide +kernel
theorem dX8_assigns_24 : decode cX8_assigns 24 = .ok (.bipush 6, 2) := by decide +kernel
theorem dX8_assigns_26 : decode cX8_assigns 26 = .ok (.aload_n 0, 1) := by decide +kernel
theorem dX8_assigns_27 : decode cX8_assigns 27 = .ok (.getfield 230, 3) := by decide +kernel
theorem dX8_assigns_30 : decode cX8_assigns 30 = .ok (.invokevirtual 244, 3) := by decide +kernel
theorem dX8_assigns_33 : decode cX8_assigns 33 = .ok (.aload_n 0, 1) := by decide +kernel
theorem dX8_assigns_34 : decode cX8_assigns 34 = .ok (.iload_n 1, 1) := by decide +kernel
theorem dX8_assigns_35 : decode cX8_assigns 35 = .ok (.bipush 7, 2) := by decide +kernel
theorem dX8_assigns_37 : decode cX8_assigns 37 = .ok (.aload_n 0, 1) := by decide +kernel
theorem dX8_assigns_38 : decode cX8_assigns 38 = .ok (.getfield 233, 3) := by decide +kernel
theorem dX8_assigns_41 : decode cX8_assigns 41 = .ok (.invokevirtual 244, 3) := by decide +kernel
theorem dX8_assigns_44 : decode cX8_assigns 44 = .ok (.aload_n 0, 1) := by decide +kernel
theorem dX8_assigns_45 : decode cX8_assigns 45 = .ok (.iload_n 1, 1) := by decide +kernel
theorem dX8_assigns_46 : decode cX8_assigns 46 = .ok (.bipush 10, 2) := by decide +kernel
theorem dX8_assigns_48 : decode cX8_assigns 48 = .ok (.aload_n 0, 1) := by decide +kernel
theorem dX8_assigns_49 : decode cX8_assigns 49 = .ok (.getfield 19, 3) := by decide +kernel
theorem dX8_assigns_52 : decode cX8_assigns 52 = .ok (.iconst 0, 1) := by decide +kernel
theorem dX8_assigns_53 : decode cX8_assigns 53 = .ok (.iaload, 1) := by decide +kernel
theorem dX8_assigns_54 : decode cX8_assigns 54 = .ok (.invokevirtual 244, 3) := by decide +kernel
theorem dX8_assigns_57 : decode cX8_assigns 57 = .ok (.aload_n 0, 1) := by decide +kernel
theorem dX8_assigns_58 : decode cX8_assigns 58 = .ok (.iload_n 1, 1) := by decide +kernel
theorem dX8_assigns_59 : decode cX8_assigns 59 = .ok (.bipush 8, 2) := by decide +kernel
theorem dX8_assigns_61 : decode cX8_assigns 61 = .ok (.aload_n 0, 1) := by decide +kernel
theorem dX8_assigns_62 : decode cX8_assigns 62 = .ok (.getfield 19, 3) := by decide +kernel
theorem dX8_assigns_65 : decode cX8_assigns 65 = .ok (.iconst 0, 1) := by decide +kernel
theorem dX8_assigns_66 : decode cX8_assigns 66 = .ok (.iaload, 1) := by decide +kernel
theorem dX8_assigns_67 : decode cX8_assigns 67 = .ok (.aload_n 0, 1) := by decide +kernel
theorem dX8_assigns_68 : decode cX8_assigns 68 = .ok (.iload_n 1, 1) := by decide +kernel
theorem dX8_assigns_69 : decode cX8_assigns 69 = .ok (.iconst 4, 1) := by decide +kernel
theorem dX8_assigns_70 : decode cX8_assigns 70 = .ok (.invokevirtual 200, 3) := by decide +kernel
theorem dX8_assigns_73 : decode cX8_assigns 73 = .ok (.iadd, 1) := by decide +kernel
theorem dX8_assigns_74 : decode cX8_assigns 74 = .ok (.invokevirtual 244, 3) := by decide +kernel
theorem dX8_assigns_77 : decode cX8_assigns 77 = .ok (.iconst 1, 1) := by decide +kernel
theorem dX8_assigns_78 : decode cX8_assigns 78 = .ok (.ireturn, 1) := by decide +kernel
theorem dX8_serves_0 : decode cX8_serves 0 = .ok (.aload_n 0, 1) := by decide +kernel
theorem dX8_serves_1 : decode cX8_serves 1 = .ok (.aload_n 0, 1) := by decide +kernel
theorem dX8_serves_2 : decode cX8_serves 2 = .ok (.getfield 13, 3) := by decide +kernel
theorem dX8_serves_5 : decode cX8_serves 5 = .ok (.bipush 64, 2) := by decide +kernel
theorem dX8_serves_7 : decode cX8_serves 7 = .ok (.iaload, 1) := by decide +kernel
theorem dX8_serves_8 : decode cX8_serves 8 = .ok (.putfield 138, 3) := by decide +kernel
theorem dX8_serves_11 : decode cX8_serves 11 = .ok (.aload_n 0, 1) := by decide +kernel
theorem dX8_serves_12 : decode cX8_serves 12 = .ok (.iconst 1, 1) := by decide +kernel
theorem dX8_serves_13 : decode cX8_serves 13 = .ok (.invokevirtual 226, 3) := by decide +kernel
theorem dX8_serves_16 : decode cX8_serves 16 = .ok (.aload_n 0, 1) := by decide +kernel
theorem dX8_serves_17 : decode cX8_serves 17 = .ok (.getfield 219, 3) := by decide +kernel
theorem dX8_serves_20 : decode cX8_serves 20 = .ok (.istore_n 1, 1) := by decide +kernel
theorem dX8_serves_21 : decode cX8_serves 21 = .ok (.iconst 0, 1) := by decide +kernel
theorem dX8_serves_22 : decode cX8_serves 22 = .ok (.istore_n 2, 1) := by decide +kernel
theorem dX8_serves_23 : decode cX8_serves 23 = .ok (.iload_n 2, 1) := by decide +kernel
theorem dX8_serves_24 : decode cX8_serves 24 = .ok (.iload_n 1, 1) := by decide +kernel
theorem dX8_serves_25 : decode cX8_serves 25 = .ok (.if_icmp .ge 21, 3) := by decide +kernel
theorem dX8_serves_28 : decode cX8_serves 28 = .ok (.aload_n 0, 1) := by decide +kernel
theorem dX8_serves_29 : decode cX8_serves 29 = .ok (.getfield 41, 3) := by decide +kernel
theorem dX8_serves_32 : decode cX8_serves 32 = .ok (.iload_n 2, 1) := by decide +kernel
theorem dX8_serves_33 : decode cX8_serves 33 = .ok (.aload_n 0, 1) := by decide +kernel
theorem dX8_serves_34 : decode cX8_serves 34 = .ok (.getfield 32, 3) := by decide +kernel
theorem dX8_serves_37 : decode cX8_serves 37 = .ok (.iload_n 2, 1) := by decide +kernel
theorem dX8_serves_38 : decode cX8_serves 38 = .ok (.iaload, 1) := by decide +kernel
theorem dX8_serves_39 : decode cX8_serves 39 = .ok (.iastore, 1) := by decide +kernel
theorem dX8_serves_40 : decode cX8_serves 40 = .ok (.iinc 2 1, 3) := by decide +kernel
theorem dX8_serves_43 : decode cX8_serves 43 = .ok (.goto (-20), 3) := by decide +kernel
theorem dX8_serves_46 : decode cX8_serves 46 = .ok (.iconst 0, 1) := by decide +kernel
theorem dX8_serves_47 : decode cX8_serves 47 = .ok (.istore_n 2, 1) := by decide +kernel
theorem dX8_serves_48 : decode cX8_serves 48 = .ok (.iconst 0, 1) := by decide +kernel
theorem dX8_serves_49 : decode cX8_serves 49 = .ok (.istore_n 3, 1) := by decide +kernel
theorem dX8_serves_50 : decode cX8_serves 50 = .ok (.iload_n 3, 1) := by decide +kernel
theorem dX8_serves_51 : decode cX8_serves 51 = .ok (.iload_n 1, 1) := by decide +kernel
theorem dX8_serves_52 : decode cX8_serves 52 = .ok (.if_icmp .ge 30, 3) := by decide +kernel
theorem dX8_serves_55 : decode cX8_serves 55 = .ok (.iload_n 2, 1) := by decide +kernel
theorem dX8_serves_56 : decode cX8_serves 56 = .ok (.aload_n 0, 1) := by decide +kernel
theorem dX8_serves_57 : decode cX8_serves 57 = .ok (.aload_n 0, 1) := by decide +kernel
theorem dX8_serves_58 : decode cX8_serves 58 = .ok (.getfield 41, 3) := by decide +kernel
theorem dX8_serves_61 : decode cX8_serves 61 = .ok (.iload_n 3, 1) := by decide +kernel
theorem dX8_serves_62 : decode cX8_serves 62 = .ok (.iaload, 1) := by decide +kernel
theorem dX8_serves_63 : decode cX8_serves 63 = .ok (.invokevirtual 145, 3) := by decide +kernel
theorem dX8_serves_66 : decode cX8_serves 66 = .ok (.ifCond .eq 7, 3) := by decide +kernel
theorem dX8_serves_69 : decode cX8_serves 69 = .ok (.iconst 1, 1) := by decide +kernel
theorem dX8_serves_70 : decode cX8_serves 70 = .ok (.goto 4, 3) := by decide +kernel
theorem dX8_serves_73 : decode cX8_serves 73 = .ok (.iconst 0, 1) := by decide +kernel
theorem dX8_serves_74 : decode cX8_serves 74 = .ok (.iadd, 1) := by decide +kernel
theorem dX8_serves_75 : decode cX8_serves 75 = .ok (.istore_n 2, 1) := by decide +kernel
theorem dX8_serves_76 : decode cX8_serves 76 = .ok (.iinc 3 1, 3) := by decide +kernel
theorem dX8_serves_79 : decode cX8_serves 79 = .ok (.goto (-29), 3) := by decide +kernel
theorem dX8_serves_82 : decode cX8_serves 82 = .ok (.iload_n 2, 1) := by decide +kernel
theorem dX8_serves_83 : decode cX8_serves 83 = .ok (.ireturn, 1) := by decide +kernel
theorem dX8_callsOn_0 : decode cX8_callsOn 0 = .ok (.aload_n 0, 1) := by decide +kernel
theorem dX8_callsOn_1 : decode cX8_callsOn 1 = .ok (.aload_n 0, 1) := by decide +kernel
theorem dX8_callsOn_2 : decode cX8_callsOn 2 = .ok (.iload_n 1, 1) := by decide +kernel
theorem dX8_callsOn_3 : decode cX8_callsOn 3 = .ok (.invokevirtual 254, 3) := by decide +kernel
theorem dX8_callsOn_6 : decode cX8_callsOn 6 = .ok (.invokevirtual 181, 3) := by decide +kernel
theorem dX8_callsOn_9 : decode cX8_callsOn 9 = .ok (.ifCond .ne 5, 3) := by decide +kernel
theorem dX8_callsOn_12 : decode cX8_callsOn 12 = .ok (.iconst 0, 1) := by decide +kernel
theorem dX8_callsOn_13 : decode cX8_callsOn 13 = .ok (.ireturn, 1) := by decide +kernel
theorem dX8_callsOn_14 : decode cX8_callsOn 14 = .ok (.iconst 0, 1) := by decide +kernel
theorem dX8_callsOn_15 : decode cX8_callsOn 15 = .ok (.istore_n 2, 1) := by decide +kernel
theorem dX8_callsOn_16 : decode cX8_callsOn 16 = .ok (.iconst 0, 1) := by decide +kernel
theorem dX8_callsOn_17 : decode cX8_callsOn 17 = .ok (.istore_n 3, 1) := by decide +kernel
theorem dX8_callsOn_18 : decode cX8_callsOn 18 = .ok (.iload_n 3, 1) := by decide +kernel
theorem dX8_callsOn_19 : decode cX8_callsOn 19 = .ok (.aload_n 0, 1) := by decide +kernel
theorem dX8_callsOn_20 : decode cX8_callsOn 20 = .ok (.getfield 19, 3) := by decide +kernel
theorem dX8_callsOn_23 : decode cX8_callsOn 23 = .ok (.sipush 404, 3) := by decide +kernel
theorem dX8_callsOn_26 : decode cX8_callsOn 26 = .ok (.iaload, 1) := by decide +kernel
theorem dX8_callsOn_27 : decode cX8_callsOn 27 = .ok (.if_icmp .ge 36, 3) := by decide +kernel
theorem dX8_callsOn_30 : decode cX8_callsOn 30 = .ok (.iload_n 2, 1) := by decide +kernel
theorem dX8_callsOn_31 : decode cX8_callsOn 31 = .ok (.aload_n 0, 1) := by decide +kernel
theorem dX8_callsOn_32 : decode cX8_callsOn 32 = .ok (.iload_n 3, 1) := by decide +kernel
theorem dX8_callsOn_33 : decode cX8_callsOn 33 = .ok (.invokevirtual 203, 3) := by decide +kernel
theorem dX8_callsOn_36 : decode cX8_callsOn 36 = .ok (.ifCond .eq 18, 3) := by decide +kernel
theorem dX8_callsOn_39 : decode cX8_callsOn 39 = .ok (.aload_n 0, 1) := by decide +kernel
theorem dX8_callsOn_40 : decode cX8_callsOn 40 = .ok (.iload_n 3, 1) := by decide +kernel
theorem dX8_callsOn_41 : decode cX8_callsOn 41 = .ok (.bipush 6, 2) := by decide +kernel
theorem dX8_callsOn_43 : decode cX8_callsOn 43 = .ok (.invokevirtual 200, 3) := by decide +kernel
theorem dX8_callsOn_46 : decode cX8_callsOn 46 = .ok (.iload_n 1, 1) := by decide +kernel
theorem dX8_callsOn_47 : decode cX8_callsOn 47 = .ok (.if_icmp .ne 7, 3) := by decide +kernel
theorem dX8_callsOn_50 : decode cX8_callsOn 50 = .ok (.iconst 1, 1) := by decide +kernel
theorem dX8_callsOn_51 : decode cX8_callsOn 51 = .ok (.goto 4, 3) := by decide +kernel
theorem dX8_callsOn_54 : decode cX8_callsOn 54 = .ok (.iconst 0, 1) := by decide +kernel
theorem dX8_callsOn_55 : decode cX8_callsOn 55 = .ok (.iadd, 1) := by decide +kernel
theorem dX8_callsOn_56 : decode cX8_callsOn 56 = .ok (.istore_n 2, 1) := by decide +kernel
theorem dX8_callsOn_57 : decode cX8_callsOn 57 = .ok (.iinc 3 1, 3) := by decide +kernel
theorem dX8_callsOn_60 : decode cX8_callsOn 60 = .ok (.goto (-42), 3) := by decide +kernel
theorem dX8_callsOn_63 : decode cX8_callsOn 63 = .ok (.iload_n 2, 1) := by decide +kernel
theorem dX8_callsOn_64 : decode cX8_callsOn 64 = .ok (.ireturn, 1) := by decide +kernel
theorem dX8_usedSymbols_0 : decode cX8_usedSymbols 0 = .ok (.aload_n 0, 1) := by decide +kernel
theorem dX8_usedSymbols_1 : decode cX8_usedSymbols 1 = .ok (.aload_n 0, 1) := by decide +kernel
theorem dX8_usedSymbols_2 : decode cX8_usedSymbols 2 = .ok (.iload_n 1, 1) := by decide +kernel
theorem dX8_usedSymbols_3 : decode cX8_usedSymbols 3 = .ok (.invokevirtual 254, 3) := by decide +kernel
theorem dX8_usedSymbols_6 : decode cX8_usedSymbols 6 = .ok (.invokevirtual 181, 3) := by decide +kernel
theorem dX8_usedSymbols_9 : decode cX8_usedSymbols 9 = .ok (.ifCond .ne 5, 3) := by decide +kernel
theorem dX8_usedSymbols_12 : decode cX8_usedSymbols 12 = .ok (.iconst 0, 1) := by decide +kernel
theorem dX8_usedSymbols_13 : decode cX8_usedSymbols 13 = .ok (.ireturn, 1) := by decide +kernel
theorem dX8_usedSymbols_14 : decode cX8_usedSymbols 14 = .ok (.iconst 0, 1) := by decide +kernel
theorem dX8_usedSymbols_15 : decode cX8_usedSymbols 15 = .ok (.istore_n 2, 1) := by decide +kernel
theorem dX8_usedSymbols_16 : decode cX8_usedSymbols 16 = .ok (.iconst 0, 1) := by decide +kernel
theorem dX8_usedSymbols_17 : decode cX8_usedSymbols 17 = .ok (.istore_n 3, 1) := by decide +kernel
theorem dX8_usedSymbols_18 : decode cX8_usedSymbols 18 = .ok (.iload_n 3, 1) := by decide +kernel
theorem dX8_usedSymbols_19 : decode cX8_usedSymbols 19 = .ok (.aload_n 0, 1) := by decide +kernel
theorem dX8_usedSymbols_20 : decode cX8_usedSymbols 20 = .ok (.getfield 19, 3) := by decide +kernel
theorem dX8_usedSymbols_23 : decode cX8_usedSymbols 23 = .ok (.sipush 404, 3) := by decide +kernel
theorem dX8_usedSymbols_26 : decode cX8_usedSymbols 26 = .ok (.iaload, 1) := by decide +kernel
theorem dX8_usedSymbols_27 : decode cX8_usedSymbols 27 = .ok (.if_icmp .ge 40, 3) := by decide +kernel
theorem dX8_usedSymbols_30 : decode cX8_usedSymbols 30 = .ok (.iload_n 2, 1) := by decide +kernel
theorem dX8_usedSymbols_31 : decode cX8_usedSymbols 31 = .ok (.aload_n 0, 1) := by decide +kernel
theorem dX8_usedSymbols_32 : decode cX8_usedSymbols 32 = .ok (.iload_n 3, 1) := by decide +kernel
theorem dX8_usedSymbols_33 : decode cX8_usedSymbols 33 = .ok (.invokevirtual 203, 3) := by decide +kernel
theorem dX8_usedSymbols_36 : decode cX8_usedSymbols 36 = .ok (.ifCond .eq 22, 3) := by decide +kernel
theorem dX8_usedSymbols_39 : decode cX8_usedSymbols 39 = .ok (.aload_n 0, 1) := by decide +kernel
theorem dX8_usedSymbols_40 : decode cX8_usedSymbols 40 = .ok (.iload_n 3, 1) := by decide +kernel
theorem dX8_usedSymbols_41 : decode cX8_usedSymbols 41 = .ok (.bipush 6, 2) := by decide +kernel
theorem dX8_usedSymbols_43 : decode cX8_usedSymbols 43 = .ok (.invokevirtual 200, 3) := by decide +kernel
theorem dX8_usedSymbols_46 : decode cX8_usedSymbols 46 = .ok (.iload_n 1, 1) := by decide +kernel
theorem dX8_usedSymbols_47 : decode cX8_usedSymbols 47 = .ok (.if_icmp .ne 11, 3) := by decide +kernel
theorem dX8_usedSymbols_50 : decode cX8_usedSymbols 50 = .ok (.aload_n 0, 1) := by decide +kernel
theorem dX8_usedSymbols_51 : decode cX8_usedSymbols 51 = .ok (.iload_n 3, 1) := by decide +kernel
theorem dX8_usedSymbols_52 : decode cX8_usedSymbols 52 = .ok (.invokevirtual 209, 3) := by decide +kernel
theorem dX8_usedSymbols_55 : decode cX8_usedSymbols 55 = .ok (.goto 4, 3) := by decide +kernel
theorem dX8_usedSymbols_58 : decode cX8_usedSymbols 58 = .ok (.iconst 0, 1) := by decide +kernel
theorem dX8_usedSymbols_59 : decode cX8_usedSymbols 59 = .ok (.iadd, 1) := by decide +kernel
theorem dX8_usedSymbols_60 : decode cX8_usedSymbols 60 = .ok (.istore_n 2, 1) := by decide +kernel
theorem dX8_usedSymbols_61 : decode cX8_usedSymbols 61 = .ok (.iinc 3 1, 3) := by decide +kernel
theorem dX8_usedSymbols_64 : decode cX8_usedSymbols 64 = .ok (.goto (-46), 3) := by decide +kernel
theorem dX8_usedSymbols_67 : decode cX8_usedSymbols 67 = .ok (.iload_n 2, 1) := by decide +kernel
theorem dX8_usedSymbols_68 : decode cX8_usedSymbols 68 = .ok (.ireturn, 1) := by decide +kernel
theorem dX8_callAt_0 : decode cX8_callAt 0 = .ok (.aload_n 0, 1) := by decide +kernel
theorem dX8_callAt_1 : decode cX8_callAt 1 = .ok (.aload_n 0, 1) := by decide +kernel
theorem dX8_callAt_2 : decode cX8_callAt 2 = .ok (.iload_n 1, 1) := by decide +kernel
theorem dX8_callAt_3 : decode cX8_callAt 3 = .ok (.invokevirtual 254, 3) := by decide +kernel
theorem dX8_callAt_6 : decode cX8_callAt 6 = .ok (.invokevirtual 181, 3) := by decide +kernel
theorem dX8_callAt_9 : decode cX8_callAt 9 = .ok (.ifCond .ne 5, 3) := by decide +kernel
theorem dX8_callAt_12 : decode cX8_callAt 12 = .ok (.iconst 0, 1) := by decide +kernel
theorem dX8_callAt_13 : decode cX8_callAt 13 = .ok (.ireturn, 1) := by decide +kernel
theorem dX8_callAt_14 : decode cX8_callAt 14 = .ok (.iconst 0, 1) := by decide +kernel
theorem dX8_callAt_15 : decode cX8_callAt 15 = .ok (.istore_n 3, 1) := by decide +kernel
theorem dX8_callAt_16 : decode cX8_callAt 16 = .ok (.iload_n 3, 1) := by decide +kernel
theorem dX8_callAt_17 : decode cX8_callAt 17 = .ok (.aload_n 0, 1) := by decide +kernel
theorem dX8_callAt_18 : decode cX8_callAt 18 = .ok (.getfield 19, 3) := by decide +kernel
theorem dX8_callAt_21 : decode cX8_callAt 21 = .ok (.sipush 404, 3) := by decide +kernel
theorem dX8_callAt_24 : decode cX8_callAt 24 = .ok (.iaload, 1) := by decide +kernel
theorem dX8_callAt_25 : decode cX8_callAt 25 = .ok (.if_icmp .ge 113, 3) := by decide +kernel
theorem dX8_callAt_28 : decode cX8_callAt 28 = .ok (.aload_n 0, 1) := by decide +kernel
theorem dX8_callAt_29 : decode cX8_callAt 29 = .ok (.iload_n 3, 1) := by decide +kernel
theorem dX8_callAt_30 : decode cX8_callAt 30 = .ok (.invokevirtual 203, 3) := by decide +kernel
theorem dX8_callAt_33 : decode cX8_callAt 33 = .ok (.ifCond .eq 99, 3) := by decide +kernel
theorem dX8_callAt_36 : decode cX8_callAt 36 = .ok (.aload_n 0, 1) := by decide +kernel
theorem dX8_callAt_37 : decode cX8_callAt 37 = .ok (.iload_n 3, 1) := by decide +kernel
theorem dX8_callAt_38 : decode cX8_callAt 38 = .ok (.bipush 6, 2) := by decide +kernel
theorem dX8_callAt_40 : decode cX8_callAt 40 = .ok (.invokevirtual 200, 3) := by decide +kernel
theorem dX8_callAt_43 : decode cX8_callAt 43 = .ok (.iload_n 1, 1) := by decide +kernel
theorem dX8_callAt_44 : decode cX8_callAt 44 = .ok (.if_icmp .eq 6, 3) := by decide +kernel
theorem dX8_callAt_47 : decode cX8_callAt 47 = .ok (.goto 85, 3) := by decide +kernel
theorem dX8_callAt_50 : decode cX8_callAt 50 = .ok (.iconst 0, 1) := by decide +kernel
theorem dX8_callAt_51 : decode cX8_callAt 51 = .ok (.istore 4, 2) := by decide +kernel
theorem dX8_callAt_53 : decode cX8_callAt 53 = .ok (.iconst 0, 1) := by decide +kernel
theorem dX8_callAt_54 : decode cX8_callAt 54 = .ok (.istore 5, 2) := by decide +kernel
theorem dX8_callAt_56 : decode cX8_callAt 56 = .ok (.iload 5, 2) := by decide +kernel
theorem dX8_callAt_58 : decode cX8_callAt 58 = .ok (.aload_n 0, 1) := by decide +kernel
theorem dX8_callAt_59 : decode cX8_callAt 59 = .ok (.getfield 19, 3) := by decide +kernel
theorem dX8_callAt_62 : decode cX8_callAt 62 = .ok (.sipush 404, 3) := by decide +kernel
theorem dX8_callAt_65 : decode cX8_callAt 65 = .ok (.iaload, 1) := by decide +kernel
theorem dX8_callAt_66 : decode cX8_callAt 66 = .ok (.if_icmp .ge 58, 3) := by decide +kernel
theorem dX8_callAt_69 : decode cX8_callAt 69 = .ok (.iload 4, 2) := by decide +kernel
theorem dX8_callAt_71 : decode cX8_callAt 71 = .ok (.aload_n 0, 1) := by decide +kernel
theorem dX8_callAt_72 : decode cX8_callAt 72 = .ok (.iload 5, 2) := by decide +kernel
theorem dX8_callAt_74 : decode cX8_callAt 74 = .ok (.invokevirtual 203, 3) := by decide +kernel
theorem dX8_callAt_77 : decode cX8_callAt 77 = .ok (.ifCond .eq 37, 3) := by decide +kernel
theorem dX8_callAt_80 : decode cX8_callAt 80 = .ok (.aload_n 0, 1) := by decide +kernel
theorem dX8_callAt_81 : decode cX8_callAt 81 = .ok (.iload 5, 2) := by decide +kernel
theorem dX8_callAt_83 : decode cX8_callAt 83 = .ok (.bipush 6, 2) := by decide +kernel
theorem dX8_callAt_85 : decode cX8_callAt 85 = .ok (.invokevirtual 200, 3) := by decide +kernel
theorem dX8_callAt_88 : decode cX8_callAt 88 = .ok (.iload_n 1, 1) := by decide +kernel
theorem dX8_callAt_89 : decode cX8_callAt 89 = .ok (.if_icmp .ne 25, 3) := by decide +kernel
theorem dX8_callAt_92 : decode cX8_callAt 92 = .ok (.aload_n 0, 1) := by decide +kernel
theorem dX8_callAt_93 : decode cX8_callAt 93 = .ok (.iload 5, 2) := by decide +kernel
theorem dX8_callAt_95 : decode cX8_callAt 95 = .ok (.bipush 7, 2) := by decide +kernel
theorem dX8_callAt_97 : decode cX8_callAt 97 = .ok (.invokevirtual 200, 3) := by decide +kernel
theorem dX8_callAt_100 : decode cX8_callAt 100 = .ok (.aload_n 0, 1) := by decide +kernel
theorem dX8_callAt_101 : decode cX8_callAt 101 = .ok (.iload_n 3, 1) := by decide +kernel
theorem dX8_callAt_102 : decode cX8_callAt 102 = .ok (.bipush 7, 2) := by decide +kernel
theorem dX8_callAt_104 : decode cX8_callAt 104 = .ok (.invokevirtual 200, 3) := by decide +kernel
theorem dX8_callAt_107 : decode cX8_callAt 107 = .ok (.if_icmp .ge 7, 3) := by decide +kernel
theorem dX8_callAt_110 : decode cX8_callAt 110 = .ok (.iconst 1, 1) := by decide +kernel
theorem dX8_callAt_111 : decode cX8_callAt 111 = .ok (.goto 4, 3) := by decide +kernel
theorem dX8_callAt_114 : decode cX8_callAt 114 = .ok (.iconst 0, 1) := by decide +kernel
theorem dX8_callAt_115 : decode cX8_callAt 115 = .ok (.iadd, 1) := by decide +kernel
theorem dX8_callAt_116 : decode cX8_callAt 116 = .ok (.istore 4, 2) := by decide +kernel
theorem dX8_callAt_118 : decode cX8_callAt 118 = .ok (.iinc 5 1, 3) := by decide +kernel
theorem dX8_callAt_121 : decode cX8_callAt 121 = .ok (.goto (-65), 3) := by decide +kernel
theorem dX8_callAt_124 : decode cX8_callAt 124 = .ok (.iload 4, 2) := by decide +kernel
theorem dX8_callAt_126 : decode cX8_callAt 126 = .ok (.iload_n 2, 1) := by decide +kernel
theorem dX8_callAt_127 : decode cX8_callAt 127 = .ok (.if_icmp .ne 5, 3) := by decide +kernel
theorem dX8_callAt_130 : decode cX8_callAt 130 = .ok (.iload_n 3, 1) := by decide +kernel
theorem dX8_callAt_131 : decode cX8_callAt 131 = .ok (.ireturn, 1) := by decide +kernel
theorem dX8_callAt_132 : decode cX8_callAt 132 = .ok (.iinc 3 1, 3) := by decide +kernel
theorem dX8_callAt_135 : decode cX8_callAt 135 = .ok (.goto (-119), 3) := by decide +kernel
theorem dX8_callAt_138 : decode cX8_callAt 138 = .ok (.iconst (-1), 1) := by decide +kernel
theorem dX8_callAt_139 : decode cX8_callAt 139 = .ok (.ireturn, 1) := by decide +kernel
theorem dX8_longestFrom_0 : decode cX8_longestFrom 0 = .ok (.aload_n 0, 1) := by decide +kernel
theorem dX8_longestFrom_1 : decode cX8_longestFrom 1 = .ok (.getfield 19, 3) := by decide +kernel
theorem dX8_longestFrom_4 : decode cX8_longestFrom 4 = .ok (.iconst 1, 1) := by decide +kernel
theorem dX8_longestFrom_5 : decode cX8_longestFrom 5 = .ok (.iaload, 1) := by decide +kernel
theorem dX8_longestFrom_6 : decode cX8_longestFrom 6 = .ok (.istore_n 3, 1) := by decide +kernel
theorem dX8_longestFrom_7 : decode cX8_longestFrom 7 = .ok (.iconst 0, 1) := by decide +kernel
theorem dX8_longestFrom_8 : decode cX8_longestFrom 8 = .ok (.istore 4, 2) := by decide +kernel
theorem dX8_longestFrom_10 : decode cX8_longestFrom 10 = .ok (.iload 4, 2) := by decide +kernel
theorem dX8_longestFrom_12 : decode cX8_longestFrom 12 = .ok (.aload_n 0, 1) := by decide +kernel
theorem dX8_longestFrom_13 : decode cX8_longestFrom 13 = .ok (.getfield 19, 3) := by decide +kernel
theorem dX8_longestFrom_16 : decode cX8_longestFrom 16 = .ok (.sipush 404, 3) := by decide +kernel
theorem dX8_longestFrom_19 : decode cX8_longestFrom 19 = .ok (.iaload, 1) := by decide +kernel
theorem dX8_longestFrom_20 : decode cX8_longestFrom 20 = .ok (.if_icmp .ge 75, 3) := by decide +kernel
theorem dX8_longestFrom_23 : decode cX8_longestFrom 23 = .ok (.aload_n 0, 1) := by decide +kernel
theorem dX8_longestFrom_24 : decode cX8_longestFrom 24 = .ok (.iload 4, 2) := by decide +kernel
theorem dX8_longestFrom_26 : decode cX8_longestFrom 26 = .ok (.invokevirtual 203, 3) := by decide +kernel
theorem dX8_longestFrom_29 : decode cX8_longestFrom 29 = .ok (.ifCond .eq 60, 3) := by decide +kernel
theorem dX8_longestFrom_32 : decode cX8_longestFrom 32 = .ok (.aload_n 0, 1) := by decide +kernel
theorem dX8_longestFrom_33 : decode cX8_longestFrom 33 = .ok (.iload 4, 2) := by decide +kernel
theorem dX8_longestFrom_35 : decode cX8_longestFrom 35 = .ok (.bipush 6, 2) := by decide +kernel
theorem dX8_longestFrom_37 : decode cX8_longestFrom 37 = .ok (.invokevirtual 200, 3) := by decide +kernel
theorem dX8_longestFrom_40 : decode cX8_longestFrom 40 = .ok (.iload_n 1, 1) := by decide +kernel
theorem dX8_longestFrom_41 : decode cX8_longestFrom 41 = .ok (.if_icmp .eq 6, 3) := by decide +kernel
theorem dX8_longestFrom_44 : decode cX8_longestFrom 44 = .ok (.goto 45, 3) := by decide +kernel
theorem dX8_longestFrom_47 : decode cX8_longestFrom 47 = .ok (.iload_n 2, 1) := by decide +kernel
theorem dX8_longestFrom_48 : decode cX8_longestFrom 48 = .ok (.aload_n 0, 1) := by decide +kernel
theorem dX8_longestFrom_49 : decode cX8_longestFrom 49 = .ok (.iload 4, 2) := by decide +kernel
theorem dX8_longestFrom_51 : decode cX8_longestFrom 51 = .ok (.bipush 7, 2) := by decide +kernel
theorem dX8_longestFrom_53 : decode cX8_longestFrom 53 = .ok (.invokevirtual 200, 3) := by decide +kernel
theorem dX8_longestFrom_56 : decode cX8_longestFrom 56 = .ok (.aload_n 0, 1) := by decide +kernel
theorem dX8_longestFrom_57 : decode cX8_longestFrom 57 = .ok (.iload 4, 2) := by decide +kernel
theorem dX8_longestFrom_59 : decode cX8_longestFrom 59 = .ok (.invokevirtual 209, 3) := by decide +kernel
theorem dX8_longestFrom_62 : decode cX8_longestFrom 62 = .ok (.iadd, 1) := by decide +kernel
theorem dX8_longestFrom_63 : decode cX8_longestFrom 63 = .ok (.aload_n 0, 1) := by decide +kernel
theorem dX8_longestFrom_64 : decode cX8_longestFrom 64 = .ok (.getfield 19, 3) := by decide +kernel
theorem dX8_longestFrom_67 : decode cX8_longestFrom 67 = .ok (.iconst 2, 1) := by decide +kernel
theorem dX8_longestFrom_68 : decode cX8_longestFrom 68 = .ok (.iaload, 1) := by decide +kernel
theorem dX8_longestFrom_69 : decode cX8_longestFrom 69 = .ok (.iadd, 1) := by decide +kernel
theorem dX8_longestFrom_70 : decode cX8_longestFrom 70 = .ok (.if_icmp .lt 6, 3) := by decide +kernel
theorem dX8_longestFrom_73 : decode cX8_longestFrom 73 = .ok (.goto 16, 3) := by decide +kernel
theorem dX8_longestFrom_76 : decode cX8_longestFrom 76 = .ok (.iload_n 3, 1) := by decide +kernel
theorem dX8_longestFrom_77 : decode cX8_longestFrom 77 = .ok (.aload_n 0, 1) := by decide +kernel
theorem dX8_longestFrom_78 : decode cX8_longestFrom 78 = .ok (.iload 4, 2) := by decide +kernel
theorem dX8_longestFrom_80 : decode cX8_longestFrom 80 = .ok (.bipush 7, 2) := by decide +kernel
theorem dX8_longestFrom_82 : decode cX8_longestFrom 82 = .ok (.invokevirtual 200, 3) := by decide +kernel
theorem dX8_longestFrom_85 : decode cX8_longestFrom 85 = .ok (.invokestatic 257, 3) := by decide +kernel
theorem dX8_longestFrom_88 : decode cX8_longestFrom 88 = .ok (.istore_n 3, 1) := by decide +kernel
theorem dX8_longestFrom_89 : decode cX8_longestFrom 89 = .ok (.iinc 4 1, 3) := by decide +kernel
theorem dX8_longestFrom_92 : decode cX8_longestFrom 92 = .ok (.goto (-82), 3) := by decide +kernel
theorem dX8_longestFrom_95 : decode cX8_longestFrom 95 = .ok (.iload_n 3, 1) := by decide +kernel
theorem dX8_longestFrom_96 : decode cX8_longestFrom 96 = .ok (.aload_n 0, 1) := by decide +kernel
theorem dX8_longestFrom_97 : decode cX8_longestFrom 97 = .ok (.getfield 19, 3) := by decide +kernel
theorem dX8_longestFrom_100 : decode cX8_longestFrom 100 = .ok (.iconst 2, 1) := by decide +kernel
theorem dX8_longestFrom_101 : decode cX8_longestFrom 101 = .ok (.iaload, 1) := by decide +kernel
theorem dX8_longestFrom_102 : decode cX8_longestFrom 102 = .ok (.isub, 1) := by decide +kernel
theorem dX8_longestFrom_103 : decode cX8_longestFrom 103 = .ok (.iload_n 2, 1) := by decide +kernel
theorem dX8_longestFrom_104 : decode cX8_longestFrom 104 = .ok (.isub, 1) := by decide +kernel
theorem dX8_longestFrom_105 : decode cX8_longestFrom 105 = .ok (.ireturn, 1) := by decide +kernel
theorem dX8_longestFit_0 : decode cX8_longestFit 0 = .ok (.aload_n 0, 1) := by decide +kernel
theorem dX8_longestFit_1 : decode cX8_longestFit 1 = .ok (.aload_n 0, 1) := by decide +kernel
theorem dX8_longestFit_2 : decode cX8_longestFit 2 = .ok (.iload_n 1, 1) := by decide +kernel
theorem dX8_longestFit_3 : decode cX8_longestFit 3 = .ok (.invokevirtual 254, 3) := by decide +kernel
theorem dX8_longestFit_6 : decode cX8_longestFit 6 = .ok (.invokevirtual 181, 3) := by decide +kernel
theorem dX8_longestFit_9 : decode cX8_longestFit 9 = .ok (.ifCond .ne 5, 3) := by decide +kernel
theorem dX8_longestFit_12 : decode cX8_longestFit 12 = .ok (.iconst 0, 1) := by decide +kernel
theorem dX8_longestFit_13 : decode cX8_longestFit 13 = .ok (.ireturn, 1) := by decide +kernel
theorem dX8_longestFit_14 : decode cX8_longestFit 14 = .ok (.iconst 0, 1) := by decide +kernel
theorem dX8_longestFit_15 : decode cX8_longestFit 15 = .ok (.aload_n 0, 1) := by decide +kernel
theorem dX8_longestFit_16 : decode cX8_longestFit 16 = .ok (.iload_n 1, 1) := by decide +kernel
theorem dX8_longestFit_17 : decode cX8_longestFit 17 = .ok (.aload_n 0, 1) := by decide +kernel
theorem dX8_longestFit_18 : decode cX8_longestFit 18 = .ok (.getfield 19, 3) := by decide +kernel
theorem dX8_longestFit_21 : decode cX8_longestFit 21 = .ok (.iconst 3, 1) := by decide +kernel
theorem dX8_longestFit_22 : decode cX8_longestFit 22 = .ok (.iaload, 1) := by decide +kernel
theorem dX8_longestFit_23 : decode cX8_longestFit 23 = .ok (.aload_n 0, 1) := by decide +kernel
theorem dX8_longestFit_24 : decode cX8_longestFit 24 = .ok (.getfield 19, 3) := by decide +kernel
theorem dX8_longestFit_27 : decode cX8_longestFit 27 = .ok (.iconst 2, 1) := by decide +kernel
theorem dX8_longestFit_28 : decode cX8_longestFit 28 = .ok (.iaload, 1) := by decide +kernel
theorem dX8_longestFit_29 : decode cX8_longestFit 29 = .ok (.iadd, 1) := by decide +kernel
theorem dX8_longestFit_30 : decode cX8_longestFit 30 = .ok (.invokevirtual 262, 3) := by decide +kernel
theorem dX8_longestFit_33 : decode cX8_longestFit 33 = .ok (.invokestatic 265, 3) := by decide +kernel
theorem dX8_longestFit_36 : decode cX8_longestFit 36 = .ok (.istore_n 2, 1) := by decide +kernel
theorem dX8_longestFit_37 : decode cX8_longestFit 37 = .ok (.iconst 0, 1) := by decide +kernel
theorem dX8_longestFit_38 : decode cX8_longestFit 38 = .ok (.istore_n 3, 1) := by decide +kernel
theorem dX8_longestFit_39 : decode cX8_longestFit 39 = .ok (.iload_n 3, 1) := by decide +kernel
theorem dX8_longestFit_40 : decode cX8_longestFit 40 = .ok (.aload_n 0, 1) := by decide +kernel
theorem dX8_longestFit_41 : decode cX8_longestFit 41 = .ok (.getfield 19, 3) := by decide +kernel
theorem dX8_longestFit_44 : decode cX8_longestFit 44 = .ok (.sipush 404, 3) := by decide +kernel
theorem dX8_longestFit_47 : decode cX8_longestFit 47 = .ok (.iaload, 1) := by decide +kernel
theorem dX8_longestFit_48 : decode cX8_longestFit 48 = .ok (.if_icmp .ge 58, 3) := by decide +kernel
theorem dX8_longestFit_51 : decode cX8_longestFit 51 = .ok (.aload_n 0, 1) := by decide +kernel
theorem dX8_longestFit_52 : decode cX8_longestFit 52 = .ok (.iload_n 3, 1) := by decide +kernel
theorem dX8_longestFit_53 : decode cX8_longestFit 53 = .ok (.invokevirtual 203, 3) := by decide +kernel
theorem dX8_longestFit_56 : decode cX8_longestFit 56 = .ok (.ifCond .eq 44, 3) := by decide +kernel
theorem dX8_longestFit_59 : decode cX8_longestFit 59 = .ok (.aload_n 0, 1) := by decide +kernel
theorem dX8_longestFit_60 : decode cX8_longestFit 60 = .ok (.iload_n 3, 1) := by decide +kernel
theorem dX8_longestFit_61 : decode cX8_longestFit 61 = .ok (.bipush 6, 2) := by decide +kernel
theorem dX8_longestFit_63 : decode cX8_longestFit 63 = .ok (.invokevirtual 200, 3) := by decide +kernel
theorem dX8_longestFit_66 : decode cX8_longestFit 66 = .ok (.iload_n 1, 1) := by decide +kernel
theorem dX8_longestFit_67 : decode cX8_longestFit 67 = .ok (.if_icmp .ne 33, 3) := by decide +kernel
theorem dX8_longestFit_70 : decode cX8_longestFit 70 = .ok (.iload_n 2, 1) := by decide +kernel
theorem dX8_longestFit_71 : decode cX8_longestFit 71 = .ok (.aload_n 0, 1) := by decide +kernel
theorem dX8_longestFit_72 : decode cX8_longestFit 72 = .ok (.iload_n 1, 1) := by decide +kernel
theorem dX8_longestFit_73 : decode cX8_longestFit 73 = .ok (.aload_n 0, 1) := by decide +kernel
theorem dX8_longestFit_74 : decode cX8_longestFit 74 = .ok (.iload_n 3, 1) := by decide +kernel
theorem dX8_longestFit_75 : decode cX8_longestFit 75 = .ok (.bipush 7, 2) := by decide +kernel
theorem dX8_longestFit_77 : decode cX8_longestFit 77 = .ok (.invokevirtual 200, 3) := by decide +kernel
theorem dX8_longestFit_80 : decode cX8_longestFit 80 = .ok (.aload_n 0, 1) := by decide +kernel
theorem dX8_longestFit_81 : decode cX8_longestFit 81 = .ok (.iload_n 3, 1) := by decide +kernel
theorem dX8_longestFit_82 : decode cX8_longestFit 82 = .ok (.invokevirtual 209, 3) := by decide +kernel
theorem dX8_longestFit_85 : decode cX8_longestFit 85 = .ok (.iadd, 1) := by decide +kernel
theorem dX8_longestFit_86 : decode cX8_longestFit 86 = .ok (.aload_n 0, 1) := by decide +kernel
theorem dX8_longestFit_87 : decode cX8_longestFit 87 = .ok (.getfield 19, 3) := by decide +kernel
theorem dX8_longestFit_90 : decode cX8_longestFit 90 = .ok (.iconst 2, 1) := by decide +kernel
theorem dX8_longestFit_91 : decode cX8_longestFit 91 = .ok (.iaload, 1) := by decide +kernel
theorem dX8_longestFit_92 : decode cX8_longestFit 92 = .ok (.iadd, 1) := by decide +kernel
theorem dX8_longestFit_93 : decode cX8_longestFit 93 = .ok (.invokevirtual 262, 3) := by decide +kernel
theorem dX8_longestFit_96 : decode cX8_longestFit 96 = .ok (.invokestatic 265, 3) := by decide +kernel
theorem dX8_longestFit_99 : decode cX8_longestFit 99 = .ok (.istore_n 2, 1) := by decide +kernel
theorem dX8_longestFit_100 : decode cX8_longestFit 100 = .ok (.iinc 3 1, 3) := by decide +kernel
theorem dX8_longestFit_103 : decode cX8_longestFit 103 = .ok (.goto (-64), 3) := by decide +kernel
theorem dX8_longestFit_106 : decode cX8_longestFit 106 = .ok (.iload_n 2, 1) := by decide +kernel
theorem dX8_longestFit_107 : decode cX8_longestFit 107 = .ok (.ireturn, 1) := by decide +kernel
theorem dX8_nextEnd_0 : decode cX8_nextEnd 0 = .ok (.aload_n 0, 1) := by decide +kernel
theorem dX8_nextEnd_1 : decode cX8_nextEnd 1 = .ok (.iconst 0, 1) := by decide +kernel
theorem dX8_nextEnd_2 : decode cX8_nextEnd 2 = .ok (.putfield 47, 3) := by decide +kernel
theorem dX8_nextEnd_5 : decode cX8_nextEnd 5 = .ok (.iconst (-1), 1) := by decide +kernel
theorem dX8_nextEnd_6 : decode cX8_nextEnd 6 = .ok (.istore_n 1, 1) := by decide +kernel
theorem dX8_nextEnd_7 : decode cX8_nextEnd 7 = .ok (.iconst 0, 1) := by decide +kernel
theorem dX8_nextEnd_8 : decode cX8_nextEnd 8 = .ok (.istore_n 2, 1) := by decide +kernel
theorem dX8_nextEnd_9 : decode cX8_nextEnd 9 = .ok (.iload_n 2, 1) := by decide +kernel
theorem dX8_nextEnd_10 : decode cX8_nextEnd 10 = .ok (.aload_n 0, 1) := by decide +kernel
theorem dX8_nextEnd_11 : decode cX8_nextEnd 11 = .ok (.getfield 19, 3) := by decide +kernel
theorem dX8_nextEnd_14 : decode cX8_nextEnd 14 = .ok (.sipush 404, 3) := by decide +kernel
theorem dX8_nextEnd_17 : decode cX8_nextEnd 17 = .ok (.iaload, 1) := by decide +kernel
theorem dX8_nextEnd_18 : decode cX8_nextEnd 18 = .ok (.if_icmp .ge 41, 3) := by decide +kernel
theorem dX8_nextEnd_21 : decode cX8_nextEnd 21 = .ok (.aload_n 0, 1) := by decide +kernel
theorem dX8_nextEnd_22 : decode cX8_nextEnd 22 = .ok (.iload_n 2, 1) := by decide +kernel
theorem dX8_nextEnd_23 : decode cX8_nextEnd 23 = .ok (.invokevirtual 203, 3) := by decide +kernel
theorem dX8_nextEnd_26 : decode cX8_nextEnd 26 = .ok (.ifCond .eq 27, 3) := by decide +kernel
theorem dX8_nextEnd_29 : decode cX8_nextEnd 29 = .ok (.iload_n 1, 1) := by decide +kernel
theorem dX8_nextEnd_30 : decode cX8_nextEnd 30 = .ok (.iconst (-1), 1) := by decide +kernel
theorem dX8_nextEnd_31 : decode cX8_nextEnd 31 = .ok (.if_icmp .eq 14, 3) := by decide +kernel
theorem dX8_nextEnd_34 : decode cX8_nextEnd 34 = .ok (.aload_n 0, 1) := by decide +kernel
theorem dX8_nextEnd_35 : decode cX8_nextEnd 35 = .ok (.iload_n 2, 1) := by decide +kernel
theorem dX8_nextEnd_36 : decode cX8_nextEnd 36 = .ok (.bipush 8, 2) := by decide +kernel
theorem dX8_nextEnd_38 : decode cX8_nextEnd 38 = .ok (.invokevirtual 200, 3) := by decide +kernel
theorem dX8_nextEnd_41 : decode cX8_nextEnd 41 = .ok (.iload_n 1, 1) := by decide +kernel
theorem dX8_nextEnd_42 : decode cX8_nextEnd 42 = .ok (.if_icmp .ge 11, 3) := by decide +kernel
theorem dX8_nextEnd_45 : decode cX8_nextEnd 45 = .ok (.aload_n 0, 1) := by decide +kernel
theorem dX8_nextEnd_46 : decode cX8_nextEnd 46 = .ok (.iload_n 2, 1) := by decide +kernel
theorem dX8_nextEnd_47 : decode cX8_nextEnd 47 = .ok (.bipush 8, 2) := by decide +kernel
theorem dX8_nextEnd_49 : decode cX8_nextEnd 49 = .ok (.invokevirtual 200, 3) := by decide +kernel
theorem dX8_nextEnd_52 : decode cX8_nextEnd 52 = .ok (.istore_n 1, 1) := by decide +kernel
theorem dX8_nextEnd_53 : decode cX8_nextEnd 53 = .ok (.iinc 2 1, 3) := by decide +kernel
theorem dX8_nextEnd_56 : decode cX8_nextEnd 56 = .ok (.goto (-47), 3) := by decide +kernel
theorem dX8_nextEnd_59 : decode cX8_nextEnd 59 = .ok (.iload_n 1, 1) := by decide +kernel
theorem dX8_nextEnd_60 : decode cX8_nextEnd 60 = .ok (.ireturn, 1) := by decide +kernel
theorem dX8_priorityOf_0 : decode cX8_priorityOf 0 = .ok (.aload_n 0, 1) := by decide +kernel
theorem dX8_priorityOf_1 : decode cX8_priorityOf 1 = .ok (.aload_n 0, 1) := by decide +kernel
theorem dX8_priorityOf_2 : decode cX8_priorityOf 2 = .ok (.iload_n 1, 1) := by decide +kernel
theorem dX8_priorityOf_3 : decode cX8_priorityOf 3 = .ok (.invokevirtual 197, 3) := by decide +kernel
theorem dX8_priorityOf_6 : decode cX8_priorityOf 6 = .ok (.invokevirtual 181, 3) := by decide +kernel
theorem dX8_priorityOf_9 : decode cX8_priorityOf 9 = .ok (.ifCond .eq 12, 3) := by decide +kernel
theorem dX8_priorityOf_12 : decode cX8_priorityOf 12 = .ok (.aload_n 0, 1) := by decide +kernel
theorem dX8_priorityOf_13 : decode cX8_priorityOf 13 = .ok (.iload_n 1, 1) := by decide +kernel
theorem dX8_priorityOf_14 : decode cX8_priorityOf 14 = .ok (.iconst 2, 1) := by decide +kernel
theorem dX8_priorityOf_15 : decode cX8_priorityOf 15 = .ok (.invokevirtual 200, 3) := by decide +kernel
theorem dX8_priorityOf_18 : decode cX8_priorityOf 18 = .ok (.goto 4, 3) := by decide +kernel
theorem dX8_priorityOf_21 : decode cX8_priorityOf 21 = .ok (.iconst 0, 1) := by decide +kernel
theorem dX8_priorityOf_22 : decode cX8_priorityOf 22 = .ok (.ireturn, 1) := by decide +kernel
theorem dX8_callOver_0 : decode cX8_callOver 0 = .ok (.aload_n 0, 1) := by decide +kernel
theorem dX8_callOver_1 : decode cX8_callOver 1 = .ok (.aload_n 0, 1) := by decide +kernel
theorem dX8_callOver_2 : decode cX8_callOver 2 = .ok (.iload_n 1, 1) := by decide +kernel
theorem dX8_callOver_3 : decode cX8_callOver 3 = .ok (.invokevirtual 254, 3) := by decide +kernel
theorem dX8_callOver_6 : decode cX8_callOver 6 = .ok (.invokevirtual 181, 3) := by decide +kernel
theorem dX8_callOver_9 : decode cX8_callOver 9 = .ok (.ifCond .ne 5, 3) := by decide +kernel
theorem dX8_callOver_12 : decode cX8_callOver 12 = .ok (.iconst 0, 1) := by decide +kernel
theorem dX8_callOver_13 : decode cX8_callOver 13 = .ok (.ireturn, 1) := by decide +kernel
theorem dX8_callOver_14 : decode cX8_callOver 14 = .ok (.iconst 0, 1) := by decide +kernel
theorem dX8_callOver_15 : decode cX8_callOver 15 = .ok (.istore_n 3, 1) := by decide +kernel
theorem dX8_callOver_16 : decode cX8_callOver 16 = .ok (.iload_n 3, 1) := by decide +kernel
theorem dX8_callOver_17 : decode cX8_callOver 17 = .ok (.aload_n 0, 1) := by decide +kernel
theorem dX8_callOver_18 : decode cX8_callOver 18 = .ok (.getfield 19, 3) := by decide +kernel
theorem dX8_callOver_21 : decode cX8_callOver 21 = .ok (.sipush 404, 3) := by decide +kernel
theorem dX8_callOver_24 : decode cX8_callOver 24 = .ok (.iaload, 1) := by decide +kernel
theorem dX8_callOver_25 : decode cX8_callOver 25 = .ok (.if_icmp .ge 61, 3) := by decide +kernel
theorem dX8_callOver_28 : decode cX8_callOver 28 = .ok (.aload_n 0, 1) := by decide +kernel
theorem dX8_callOver_29 : decode cX8_callOver 29 = .ok (.iload_n 3, 1) := by decide +kernel
theorem dX8_callOver_30 : decode cX8_callOver 30 = .ok (.invokevirtual 203, 3) := by decide +kernel
theorem dX8_callOver_33 : decode cX8_callOver 33 = .ok (.ifCond .eq 47, 3) := by decide +kernel
theorem dX8_callOver_36 : decode cX8_callOver 36 = .ok (.aload_n 0, 1) := by decide +kernel
theorem dX8_callOver_37 : decode cX8_callOver 37 = .ok (.iload_n 3, 1) := by decide +kernel
theorem dX8_callOver_38 : decode cX8_callOver 38 = .ok (.bipush 6, 2) := by decide +kernel
theorem dX8_callOver_40 : decode cX8_callOver 40 = .ok (.invokevirtual 200, 3) := by decide +kernel
theorem dX8_callOver_43 : decode cX8_callOver 43 = .ok (.iload_n 1, 1) := by decide +kernel
theorem dX8_callOver_44 : decode cX8_callOver 44 = .ok (.if_icmp .eq 6, 3) := by decide +kernel
theorem dX8_callOver_47 : decode cX8_callOver 47 = .ok (.goto 33, 3) := by decide +kernel
theorem dX8_callOver_50 : decode cX8_callOver 50 = .ok (.iload_n 2, 1) := by decide +kernel
theorem dX8_callOver_51 : decode cX8_callOver 51 = .ok (.aload_n 0, 1) := by decide +kernel
theorem dX8_callOver_52 : decode cX8_callOver 52 = .ok (.iload_n 3, 1) := by decide +kernel
theorem dX8_callOver_53 : decode cX8_callOver 53 = .ok (.bipush 7, 2) := by decide +kernel
theorem dX8_callOver_55 : decode cX8_callOver 55 = .ok (.invokevirtual 200, 3) := by decide +kernel
theorem dX8_callOver_58 : decode cX8_callOver 58 = .ok (.if_icmp .lt 22, 3) := by decide +kernel
theorem dX8_callOver_61 : decode cX8_callOver 61 = .ok (.iload_n 2, 1) := by decide +kernel
theorem dX8_callOver_62 : decode cX8_callOver 62 = .ok (.aload_n 0, 1) := by decide +kernel
theorem dX8_callOver_63 : decode cX8_callOver 63 = .ok (.iload_n 3, 1) := by decide +kernel
theorem dX8_callOver_64 : decode cX8_callOver 64 = .ok (.bipush 7, 2) := by decide +kernel
theorem dX8_callOver_66 : decode cX8_callOver 66 = .ok (.invokevirtual 200, 3) := by decide +kernel
theorem dX8_callOver_69 : decode cX8_callOver 69 = .ok (.aload_n 0, 1) := by decide +kernel
theorem dX8_callOver_70 : decode cX8_callOver 70 = .ok (.iload_n 3, 1) := by decide +kernel
theorem dX8_callOver_71 : decode cX8_callOver 71 = .ok (.invokevirtual 209, 3) := by decide +kernel
theorem dX8_callOver_74 : decode cX8_callOver 74 = .ok (.iadd, 1) := by decide +kernel
theorem dX8_callOver_75 : decode cX8_callOver 75 = .ok (.if_icmp .ge 5, 3) := by decide +kernel
theorem dX8_callOver_78 : decode cX8_callOver 78 = .ok (.iload_n 3, 1) := by decide +kernel
theorem dX8_callOver_79 : decode cX8_callOver 79 = .ok (.ireturn, 1) := by decide +kernel
theorem dX8_callOver_80 : decode cX8_callOver 80 = .ok (.iinc 3 1, 3) := by decide +kernel
theorem dX8_callOver_83 : decode cX8_callOver 83 = .ok (.goto (-67), 3) := by decide +kernel
theorem dX8_callOver_86 : decode cX8_callOver 86 = .ok (.iconst (-1), 1) := by decide +kernel
theorem dX8_callOver_87 : decode cX8_callOver 87 = .ok (.ireturn, 1) := by decide +kernel
theorem dX8_earliestStart_0 : decode cX8_earliestStart 0 = .ok (.aload_n 0, 1) := by decide +kernel
theorem dX8_earliestStart_1 : decode cX8_earliestStart 1 = .ok (.aload_n 0, 1) := by decide +kernel
theorem dX8_earliestStart_2 : decode cX8_earliestStart 2 = .ok (.iload_n 1, 1) := by decide +kernel
theorem dX8_earliestStart_3 : decode cX8_earliestStart 3 = .ok (.invokevirtual 197, 3) := by decide +kernel
theorem dX8_earliestStart_6 : decode cX8_earliestStart 6 = .ok (.ifCond .eq 15, 3) := by decide +kernel
theorem dX8_earliestStart_9 : decode cX8_earliestStart 9 = .ok (.aload_n 0, 1) := by decide +kernel
theorem dX8_earliestStart_10 : decode cX8_earliestStart 10 = .ok (.iload_n 2, 1) := by decide +kernel
theorem dX8_earliestStart_11 : decode cX8_earliestStart 11 = .ok (.invokevirtual 254, 3) := by decide +kernel
theorem dX8_earliestStart_14 : decode cX8_earliestStart 14 = .ok (.ifCond .eq 7, 3) := by decide +kernel
theorem dX8_earliestStart_17 : decode cX8_earliestStart 17 = .ok (.iconst 1, 1) := by decide +kernel
theorem dX8_earliestStart_18 : decode cX8_earliestStart 18 = .ok (.goto 4, 3) := by decide +kernel
theorem dX8_earliestStart_21 : decode cX8_earliestStart 21 = .ok (.iconst 0, 1) := by decide +kernel
theorem dX8_earliestStart_22 : decode cX8_earliestStart 22 = .ok (.invokevirtual 181, 3) := by decide +kernel
theorem dX8_earliestStart_25 : decode cX8_earliestStart 25 = .ok (.ifCond .ne 5, 3) := by decide +kernel
theorem dX8_earliestStart_28 : decode cX8_earliestStart 28 = .ok (.iconst 0, 1) := by decide +kernel
theorem dX8_earliestStart_29 : decode cX8_earliestStart 29 = .ok (.ireturn, 1) := by decide +kernel
theorem dX8_earliestStart_30 : decode cX8_earliestStart 30 = .ok (.aload_n 0, 1) := by decide +kernel
theorem dX8_earliestStart_31 : decode cX8_earliestStart 31 = .ok (.iload_n 1, 1) := by decide +kernel
theorem dX8_earliestStart_32 : decode cX8_earliestStart 32 = .ok (.iconst 5, 1) := by decide +kernel
theorem dX8_earliestStart_33 : decode cX8_earliestStart 33 = .ok (.invokevirtual 200, 3) := by decide +kernel
theorem dX8_earliestStart_36 : decode cX8_earliestStart 36 = .ok (.ifCond .eq 5, 3) := by decide +kernel
theorem dX8_earliestStart_39 : decode cX8_earliestStart 39 = .ok (.iconst (-1), 1) := by decide +kernel
theorem dX8_earliestStart_40 : decode cX8_earliestStart 40 = .ok (.ireturn, 1) := by decide +kernel
theorem dX8_earliestStart_41 : decode cX8_earliestStart 41 = .ok (.aload_n 0, 1) := by decide +kernel
theorem dX8_earliestStart_42 : decode cX8_earliestStart 42 = .ok (.iconst 0, 1) := by decide +kernel
theorem dX8_earliestStart_43 : decode cX8_earliestStart 43 = .ok (.invokevirtual 248, 3) := by decide +kernel
theorem dX8_earliestStart_46 : decode cX8_earliestStart 46 = .ok (.aload_n 0, 1) := by decide +kernel
theorem dX8_earliestStart_47 : decode cX8_earliestStart 47 = .ok (.getfield 19, 3) := by decide +kernel
theorem dX8_earliestStart_50 : decode cX8_earliestStart 50 = .ok (.iconst 3, 1) := by decide +kernel
theorem dX8_earliestStart_51 : decode cX8_earliestStart 51 = .ok (.iaload, 1) := by decide +kernel
theorem dX8_earliestStart_52 : decode cX8_earliestStart 52 = .ok (.aload_n 0, 1) := by decide +kernel
theorem dX8_earliestStart_53 : decode cX8_earliestStart 53 = .ok (.getfield 19, 3) := by decide +kernel
theorem dX8_earliestStart_56 : decode cX8_earliestStart 56 = .ok (.iconst 2, 1) := by decide +kernel
theorem dX8_earliestStart_57 : decode cX8_earliestStart 57 = .ok (.iaload, 1) := by decide +kernel
theorem dX8_earliestStart_58 : decode cX8_earliestStart 58 = .ok (.iadd, 1) := by decide +kernel
theorem dX8_earliestStart_59 : decode cX8_earliestStart 59 = .ok (.istore_n 3, 1) := by decide +kernel
theorem dX8_earliestStart_60 : decode cX8_earliestStart 60 = .ok (.aload_n 0, 1) := by decide +kernel
theorem dX8_earliestStart_61 : decode cX8_earliestStart 61 = .ok (.iload_n 1, 1) := by decide +kernel
theorem dX8_earliestStart_62 : decode cX8_earliestStart 62 = .ok (.iload_n 2, 1) := by decide +kernel
theorem dX8_earliestStart_63 : decode cX8_earliestStart 63 = .ok (.iload_n 3, 1) := by decide +kernel
theorem dX8_earliestStart_64 : decode cX8_earliestStart 64 = .ok (.invokevirtual 236, 3) := by decide +kernel
theorem dX8_earliestStart_67 : decode cX8_earliestStart 67 = .ok (.ifCond .eq 7, 3) := by decide +kernel
theorem dX8_earliestStart_70 : decode cX8_earliestStart 70 = .ok (.iload_n 3, 1) := by decide +kernel
theorem dX8_earliestStart_71 : decode cX8_earliestStart 71 = .ok (.goto 4, 3) := by decide +kernel
theorem dX8_earliestStart_74 : decode cX8_earliestStart 74 = .ok (.iconst (-1), 1) := by decide +kernel
theorem dX8_earliestStart_75 : decode cX8_earliestStart 75 = .ok (.istore 4, 2) := by decide +kernel
theorem dX8_earliestStart_77 : decode cX8_earliestStart 77 = .ok (.iconst 0, 1) := by decide +kernel
theorem dX8_earliestStart_78 : decode cX8_earliestStart 78 = .ok (.istore 5, 2) := by decide +kernel
theorem dX8_earliestStart_80 : decode cX8_earliestStart 80 = .ok (.iload 5, 2) := by decide +kernel
theorem dX8_earliestStart_82 : decode cX8_earliestStart 82 = .ok (.aload_n 0, 1) := by decide +kernel
theorem dX8_earliestStart_83 : decode cX8_earliestStart 83 = .ok (.getfield 19, 3) := by decide +kernel
theorem dX8_earliestStart_86 : decode cX8_earliestStart 86 = .ok (.sipush 404, 3) := by decide +kernel
theorem dX8_earliestStart_89 : decode cX8_earliestStart 89 = .ok (.iaload, 1) := by decide +kernel
theorem dX8_earliestStart_90 : decode cX8_earliestStart 90 = .ok (.if_icmp .ge 84, 3) := by decide +kernel
theorem dX8_earliestStart_93 : decode cX8_earliestStart 93 = .ok (.aload_n 0, 1) := by decide +kernel
theorem dX8_earliestStart_94 : decode cX8_earliestStart 94 = .ok (.getfield 35, 3) := by decide +kernel
theorem dX8_earliestStart_97 : decode cX8_earliestStart 97 = .ok (.iload 5, 2) := by decide +kernel
theorem dX8_earliestStart_99 : decode cX8_earliestStart 99 = .ok (.iaload, 1) := by decide +kernel
theorem dX8_earliestStart_100 : decode cX8_earliestStart 100 = .ok (.iconst (-1), 1) := by decide +kernel
theorem dX8_earliestStart_101 : decode cX8_earliestStart 101 = .ok (.if_icmp .ne 7, 3) := by decide +kernel
theorem dX8_earliestStart_104 : decode cX8_earliestStart 104 = .ok (.iload_n 3, 1) := by decide +kernel
theorem dX8_earliestStart_105 : decode cX8_earliestStart 105 = .ok (.goto 24, 3) := by decide +kernel
theorem dX8_earliestStart_108 : decode cX8_earliestStart 108 = .ok (.aload_n 0, 1) := by decide +kernel
theorem dX8_earliestStart_109 : decode cX8_earliestStart 109 = .ok (.getfield 38, 3) := by decide +kernel
theorem dX8_earliestStart_112 : decode cX8_earliestStart 112 = .ok (.iload 5, 2) := by decide +kernel
theorem dX8_earliestStart_114 : decode cX8_earliestStart 114 = .ok (.iaload, 1) := by decide +kernel
theorem dX8_earliestStart_115 : decode cX8_earliestStart 115 = .ok (.aload_n 0, 1) := by decide +kernel
theorem dX8_earliestStart_116 : decode cX8_earliestStart 116 = .ok (.iload 5, 2) := by decide +kernel
theorem dX8_earliestStart_118 : decode cX8_earliestStart 118 = .ok (.invokevirtual 209, 3) := by decide +kernel
theorem dX8_earliestStart_121 : decode cX8_earliestStart 121 = .ok (.iadd, 1) := by decide +kernel
theorem dX8_earliestStart_122 : decode cX8_earliestStart 122 = .ok (.aload_n 0, 1) := by decide +kernel
theorem dX8_earliestStart_123 : decode cX8_earliestStart 123 = .ok (.getfield 19, 3) := by decide +kernel
theorem dX8_earliestStart_126 : decode cX8_earliestStart 126 = .ok (.iconst 2, 1) := by decide +kernel
theorem dX8_earliestStart_127 : decode cX8_earliestStart 127 = .ok (.iaload, 1) := by decide +kernel
theorem dX8_earliestStart_128 : decode cX8_earliestStart 128 = .ok (.iadd, 1) := by decide +kernel
theorem dX8_earliestStart_129 : decode cX8_earliestStart 129 = .ok (.istore 6, 2) := by decide +kernel
theorem dX8_earliestStart_131 : decode cX8_earliestStart 131 = .ok (.iload 6, 2) := by decide +kernel
theorem dX8_earliestStart_133 : decode cX8_earliestStart 133 = .ok (.iload_n 3, 1) := by decide +kernel
theorem dX8_earliestStart_134 : decode cX8_earliestStart 134 = .ok (.if_icmp .lt 34, 3) := by decide +kernel
theorem dX8_earliestStart_137 : decode cX8_earliestStart 137 = .ok (.iload 4, 2) := by decide +kernel
theorem dX8_earliestStart_139 : decode cX8_earliestStart 139 = .ok (.iconst (-1), 1) := by decide +kernel
theorem dX8_earliestStart_140 : decode cX8_earliestStart 140 = .ok (.if_icmp .eq 10, 3) := by decide +kernel
theorem dX8_earliestStart_143 : decode cX8_earliestStart 143 = .ok (.iload 6, 2) := by decide +kernel
theorem dX8_earliestStart_145 : decode cX8_earliestStart 145 = .ok (.iload 4, 2) := by decide +kernel
theorem dX8_earliestStart_147 : decode cX8_earliestStart 147 = .ok (.if_icmp .ge 21, 3) := by decide +kernel
theorem dX8_earliestStart_150 : decode cX8_earliestStart 150 = .ok (.aload_n 0, 1) := by decide +kernel
theorem dX8_earliestStart_151 : decode cX8_earliestStart 151 = .ok (.iload_n 1, 1) := by decide +kernel
theorem dX8_earliestStart_152 : decode cX8_earliestStart 152 = .ok (.iload_n 2, 1) := by decide +kernel
theorem dX8_earliestStart_153 : decode cX8_earliestStart 153 = .ok (.iload 6, 2) := by decide +kernel
theorem dX8_earliestStart_155 : decode cX8_earliestStart 155 = .ok (.invokevirtual 236, 3) := by decide +kernel
theorem dX8_earliestStart_158 : decode cX8_earliestStart 158 = .ok (.ifCond .ne 6, 3) := by decide +kernel
theorem dX8_earliestStart_161 : decode cX8_earliestStart 161 = .ok (.goto 7, 3) := by decide +kernel
theorem dX8_earliestStart_164 : decode cX8_earliestStart 164 = .ok (.iload 6, 2) := by decide +kernel
theorem dX8_earliestStart_166 : decode cX8_earliestStart 166 = .ok (.istore 4, 2) := by decide +kernel
theorem dX8_earliestStart_168 : decode cX8_earliestStart 168 = .ok (.iinc 5 1, 3) := by decide +kernel
theorem dX8_earliestStart_171 : decode cX8_earliestStart 171 = .ok (.goto (-91), 3) := by decide +kernel
theorem dX8_earliestStart_174 : decode cX8_earliestStart 174 = .ok (.iload 4, 2) := by decide +kernel
theorem dX8_earliestStart_176 : decode cX8_earliestStart 176 = .ok (.ireturn, 1) := by decide +kernel
theorem dX8_conflicts_0 : decode cX8_conflicts 0 = .ok (.aload_n 0, 1) := by decide +kernel
theorem dX8_conflicts_1 : decode cX8_conflicts 1 = .ok (.aload_n 0, 1) := by decide +kernel
theorem dX8_conflicts_2 : decode cX8_conflicts 2 = .ok (.iload_n 1, 1) := by decide +kernel
theorem dX8_conflicts_3 : decode cX8_conflicts 3 = .ok (.invokevirtual 197, 3) := by decide +kernel
theorem dX8_conflicts_6 : decode cX8_conflicts 6 = .ok (.invokevirtual 181, 3) := by decide +kernel
theorem dX8_conflicts_9 : decode cX8_conflicts 9 = .ok (.ifCond .ne 5, 3) := by decide +kernel
theorem dX8_conflicts_12 : decode cX8_conflicts 12 = .ok (.iconst 0, 1) := by decide +kernel
theorem dX8_conflicts_13 : decode cX8_conflicts 13 = .ok (.ireturn, 1) := by decide +kernel
theorem dX8_conflicts_14 : decode cX8_conflicts 14 = .ok (.iconst 0, 1) := by decide +kernel
theorem dX8_conflicts_15 : decode cX8_conflicts 15 = .ok (.istore_n 2, 1) := by decide +kernel
theorem dX8_conflicts_16 : decode cX8_conflicts 16 = .ok (.iconst 0, 1) := by decide +kernel
theorem dX8_conflicts_17 : decode cX8_conflicts 17 = .ok (.istore_n 3, 1) := by decide +kernel
theorem dX8_conflicts_18 : decode cX8_conflicts 18 = .ok (.iload_n 3, 1) := by decide +kernel
theorem dX8_conflicts_19 : decode cX8_conflicts 19 = .ok (.aload_n 0, 1) := by decide +kernel
theorem dX8_conflicts_20 : decode cX8_conflicts 20 = .ok (.getfield 19, 3) := by decide +kernel
theorem dX8_conflicts_23 : decode cX8_conflicts 23 = .ok (.sipush 404, 3) := by decide +kernel
theorem dX8_conflicts_26 : decode cX8_conflicts 26 = .ok (.iaload, 1) := by decide +kernel
theorem dX8_conflicts_27 : decode cX8_conflicts 27 = .ok (.if_icmp .ge 102, 3) := by decide +kernel
theorem dX8_conflicts_30 : decode cX8_conflicts 30 = .ok (.iload_n 3, 1) := by decide +kernel
theorem dX8_conflicts_31 : decode cX8_conflicts 31 = .ok (.iload_n 1, 1) := by decide +kernel
theorem dX8_conflicts_32 : decode cX8_conflicts 32 = .ok (.if_icmp .eq 91, 3) := by decide +kernel
theorem dX8_conflicts_35 : decode cX8_conflicts 35 = .ok (.aload_n 0, 1) := by decide +kernel
theorem dX8_conflicts_36 : decode cX8_conflicts 36 = .ok (.iload_n 3, 1) := by decide +kernel
theorem dX8_conflicts_37 : decode cX8_conflicts 37 = .ok (.invokevirtual 203, 3) := by decide +kernel
theorem dX8_conflicts_40 : decode cX8_conflicts 40 = .ok (.ifCond .eq 83, 3) := by decide +kernel
theorem dX8_conflicts_43 : decode cX8_conflicts 43 = .ok (.aload_n 0, 1) := by decide +kernel
theorem dX8_conflicts_44 : decode cX8_conflicts 44 = .ok (.iload_n 1, 1) := by decide +kernel
theorem dX8_conflicts_45 : decode cX8_conflicts 45 = .ok (.invokevirtual 203, 3) := by decide +kernel
theorem dX8_conflicts_48 : decode cX8_conflicts 48 = .ok (.ifCond .ne 6, 3) := by decide +kernel
theorem dX8_conflicts_51 : decode cX8_conflicts 51 = .ok (.goto 72, 3) := by decide +kernel
theorem dX8_conflicts_54 : decode cX8_conflicts 54 = .ok (.aload_n 0, 1) := by decide +kernel
theorem dX8_conflicts_55 : decode cX8_conflicts 55 = .ok (.iload_n 3, 1) := by decide +kernel
theorem dX8_conflicts_56 : decode cX8_conflicts 56 = .ok (.bipush 6, 2) := by decide +kernel
theorem dX8_conflicts_58 : decode cX8_conflicts 58 = .ok (.invokevirtual 200, 3) := by decide +kernel
theorem dX8_conflicts_61 : decode cX8_conflicts 61 = .ok (.aload_n 0, 1) := by decide +kernel
theorem dX8_conflicts_62 : decode cX8_conflicts 62 = .ok (.iload_n 1, 1) := by decide +kernel
theorem dX8_conflicts_63 : decode cX8_conflicts 63 = .ok (.bipush 6, 2) := by decide +kernel
theorem dX8_conflicts_65 : decode cX8_conflicts 65 = .ok (.invokevirtual 200, 3) := by decide +kernel
theorem dX8_conflicts_68 : decode cX8_conflicts 68 = .ok (.if_icmp .eq 33, 3) := by decide +kernel
theorem dX8_conflicts_71 : decode cX8_conflicts 71 = .ok (.aload_n 0, 1) := by decide +kernel
theorem dX8_conflicts_72 : decode cX8_conflicts 72 = .ok (.iload_n 3, 1) := by decide +kernel
theorem dX8_conflicts_73 : decode cX8_conflicts 73 = .ok (.iconst 0, 1) := by decide +kernel
theorem dX8_conflicts_74 : decode cX8_conflicts 74 = .ok (.invokevirtual 200, 3) := by decide +kernel
theorem dX8_conflicts_77 : decode cX8_conflicts 77 = .ok (.aload_n 0, 1) := by decide +kernel
theorem dX8_conflicts_78 : decode cX8_conflicts 78 = .ok (.iload_n 1, 1) := by decide +kernel
theorem dX8_conflicts_79 : decode cX8_conflicts 79 = .ok (.iconst 0, 1) := by decide +kernel
theorem dX8_conflicts_80 : decode cX8_conflicts 80 = .ok (.invokevirtual 200, 3) := by decide +kernel
theorem dX8_conflicts_83 : decode cX8_conflicts 83 = .ok (.if_icmp .eq 18, 3) := by decide +kernel
theorem dX8_conflicts_86 : decode cX8_conflicts 86 = .ok (.aload_n 0, 1) := by decide +kernel
theorem dX8_conflicts_87 : decode cX8_conflicts 87 = .ok (.iload_n 3, 1) := by decide +kernel
theorem dX8_conflicts_88 : decode cX8_conflicts 88 = .ok (.iconst 1, 1) := by decide +kernel
theorem dX8_conflicts_89 : decode cX8_conflicts 89 = .ok (.invokevirtual 200, 3) := by decide +kernel
theorem dX8_conflicts_92 : decode cX8_conflicts 92 = .ok (.aload_n 0, 1) := by decide +kernel
theorem dX8_conflicts_93 : decode cX8_conflicts 93 = .ok (.iload_n 1, 1) := by decide +kernel
theorem dX8_conflicts_94 : decode cX8_conflicts 94 = .ok (.iconst 1, 1) := by decide +kernel
theorem dX8_conflicts_95 : decode cX8_conflicts 95 = .ok (.invokevirtual 200, 3) := by decide +kernel
theorem dX8_conflicts_98 : decode cX8_conflicts 98 = .ok (.if_icmp .ne 7, 3) := by decide +kernel
theorem dX8_conflicts_101 : decode cX8_conflicts 101 = .ok (.iconst 1, 1) := by decide +kernel
theorem dX8_conflicts_102 : decode cX8_conflicts 102 = .ok (.goto 4, 3) := by decide +kernel
theorem dX8_conflicts_105 : decode cX8_conflicts 105 = .ok (.iconst 0, 1) := by decide +kernel
theorem dX8_conflicts_106 : decode cX8_conflicts 106 = .ok (.istore 4, 2) := by decide +kernel
theorem dX8_conflicts_108 : decode cX8_conflicts 108 = .ok (.iload_n 2, 1) := by decide +kernel
theorem dX8_conflicts_109 : decode cX8_conflicts 109 = .ok (.iload 4, 2) := by decide +kernel
theorem dX8_conflicts_111 : decode cX8_conflicts 111 = .ok (.ifCond .eq 9, 3) := by decide +kernel
theorem dX8_conflicts_114 : decode cX8_conflicts 114 = .ok (.iconst 1, 1) := by decide +kernel
theorem dX8_conflicts_115 : decode cX8_conflicts 115 = .ok (.iload_n 3, 1) := by decide +kernel
theorem dX8_conflicts_116 : decode cX8_conflicts 116 = .ok (.ishl, 1) := by decide +kernel
theorem dX8_conflicts_117 : decode cX8_conflicts 117 = .ok (.goto 4, 3) := by decide +kernel
theorem dX8_conflicts_120 : decode cX8_conflicts 120 = .ok (.iconst 0, 1) := by decide +kernel
theorem dX8_conflicts_121 : decode cX8_conflicts 121 = .ok (.ior, 1) := by decide +kernel
theorem dX8_conflicts_122 : decode cX8_conflicts 122 = .ok (.istore_n 2, 1) := by decide +kernel
theorem dX8_conflicts_123 : decode cX8_conflicts 123 = .ok (.iinc 3 1, 3) := by decide +kernel
theorem dX8_conflicts_126 : decode cX8_conflicts 126 = .ok (.goto (-108), 3) := by decide +kernel
theorem dX8_conflicts_129 : decode cX8_conflicts 129 = .ok (.iload_n 2, 1) := by decide +kernel
theorem dX8_conflicts_130 : decode cX8_conflicts 130 = .ok (.ireturn, 1) := by decide +kernel
theorem dX8_busiestStation_0 : decode cX8_busiestStation 0 = .ok (.aload_n 0, 1) := by decide +kernel
theorem dX8_busiestStation_1 : decode cX8_busiestStation 1 = .ok (.iconst 0, 1) := by decide +kernel
theorem dX8_busiestStation_2 : decode cX8_busiestStation 2 = .ok (.putfield 47, 3) := by decide +kernel
theorem dX8_busiestStation_5 : decode cX8_busiestStation 5 = .ok (.iconst (-1), 1) := by decide +kernel
theorem dX8_busiestStation_6 : decode cX8_busiestStation 6 = .ok (.istore_n 1, 1) := by decide +kernel
theorem dX8_busiestStation_7 : decode cX8_busiestStation 7 = .ok (.iconst 0, 1) := by decide +kernel
theorem dX8_busiestStation_8 : decode cX8_busiestStation 8 = .ok (.istore_n 2, 1) := by decide +kernel
theorem dX8_busiestStation_9 : decode cX8_busiestStation 9 = .ok (.iconst 0, 1) := by decide +kernel
theorem dX8_busiestStation_10 : decode cX8_busiestStation 10 = .ok (.istore_n 3, 1) := by decide +kernel
theorem dX8_busiestStation_11 : decode cX8_busiestStation 11 = .ok (.iload_n 3, 1) := by decide +kernel
theorem dX8_busiestStation_12 : decode cX8_busiestStation 12 = .ok (.aload_n 0, 1) := by decide +kernel
theorem dX8_busiestStation_13 : decode cX8_busiestStation 13 = .ok (.getfield 13, 3) := by decide +kernel
theorem dX8_busiestStation_16 : decode cX8_busiestStation 16 = .ok (.bipush 62, 2) := by decide +kernel
theorem dX8_busiestStation_18 : decode cX8_busiestStation 18 = .ok (.iaload, 1) := by decide +kernel
theorem dX8_busiestStation_19 : decode cX8_busiestStation 19 = .ok (.if_icmp .ge 89, 3) := by decide +kernel
theorem dX8_busiestStation_22 : decode cX8_busiestStation 22 = .ok (.iconst 0, 1) := by decide +kernel
theorem dX8_busiestStation_23 : decode cX8_busiestStation 23 = .ok (.istore 4, 2) := by decide +kernel
theorem dX8_busiestStation_25 : decode cX8_busiestStation 25 = .ok (.iconst 0, 1) := by decide +kernel
theorem dX8_busiestStation_26 : decode cX8_busiestStation 26 = .ok (.istore 5, 2) := by decide +kernel
theorem dX8_busiestStation_28 : decode cX8_busiestStation 28 = .ok (.iload 5, 2) := by decide +kernel
theorem dX8_busiestStation_30 : decode cX8_busiestStation 30 = .ok (.aload_n 0, 1) := by decide +kernel
theorem dX8_busiestStation_31 : decode cX8_busiestStation 31 = .ok (.getfield 19, 3) := by decide +kernel
theorem dX8_busiestStation_34 : decode cX8_busiestStation 34 = .ok (.sipush 404, 3) := by decide +kernel
theorem dX8_busiestStation_37 : decode cX8_busiestStation 37 = .ok (.iaload, 1) := by decide +kernel
theorem dX8_busiestStation_38 : decode cX8_busiestStation 38 = .ok (.if_icmp .ge 50, 3) := by decide +kernel
theorem dX8_busiestStation_41 : decode cX8_busiestStation 41 = .ok (.iload 4, 2) := by decide +kernel
theorem dX8_busiestStation_43 : decode cX8_busiestStation 43 = .ok (.aload_n 0, 1) := by decide +kernel
theorem dX8_busiestStation_44 : decode cX8_busiestStation 44 = .ok (.iload 5, 2) := by decide +kernel
theorem dX8_busiestStation_46 : decode cX8_busiestStation 46 = .ok (.invokevirtual 203, 3) := by decide +kernel
theorem dX8_busiestStation_49 : decode cX8_busiestStation 49 = .ok (.ifCond .eq 29, 3) := by decide +kernel
theorem dX8_busiestStation_52 : decode cX8_busiestStation 52 = .ok (.aload_n 0, 1) := by decide +kernel
theorem dX8_busiestStation_53 : decode cX8_busiestStation 53 = .ok (.iload 5, 2) := by decide +kernel
theorem dX8_busiestStation_55 : decode cX8_busiestStation 55 = .ok (.iconst 0, 1) := by decide +kernel
theorem dX8_busiestStation_56 : decode cX8_busiestStation 56 = .ok (.invokevirtual 200, 3) := by decide +kernel
theorem dX8_busiestStation_59 : decode cX8_busiestStation 59 = .ok (.iload_n 3, 1) := by decide +kernel
theorem dX8_busiestStation_60 : decode cX8_busiestStation 60 = .ok (.if_icmp .eq 14, 3) := by decide +kernel
theorem dX8_busiestStation_63 : decode cX8_busiestStation 63 = .ok (.aload_n 0, 1) := by decide +kernel
theorem dX8_busiestStation_64 : decode cX8_busiestStation 64 = .ok (.iload 5, 2) := by decide +kernel
theorem dX8_busiestStation_66 : decode cX8_busiestStation 66 = .ok (.iconst 1, 1) := by decide +kernel
theorem dX8_busiestStation_67 : decode cX8_busiestStation 67 = .ok (.invokevirtual 200, 3) := by decide +kernel
theorem dX8_busiestStation_70 : decode cX8_busiestStation 70 = .ok (.iload_n 3, 1) := by decide +kernel
theorem dX8_busiestStation_71 : decode cX8_busiestStation 71 = .ok (.if_icmp .ne 7, 3) := by decide +kernel
theorem dX8_busiestStation_74 : decode cX8_busiestStation 74 = .ok (.iconst 1, 1) := by decide +kernel
theorem dX8_busiestStation_75 : decode cX8_busiestStation 75 = .ok (.goto 4, 3) := by decide +kernel
theorem dX8_busiestStation_78 : decode cX8_busiestStation 78 = .ok (.iconst 0, 1) := by decide +kernel
theorem dX8_busiestStation_79 : decode cX8_busiestStation 79 = .ok (.iadd, 1) := by decide +kernel
theorem dX8_busiestStation_80 : decode cX8_busiestStation 80 = .ok (.istore 4, 2) := by decide +kernel
theorem dX8_busiestStation_82 : decode cX8_busiestStation 82 = .ok (.iinc 5 1, 3) := by decide +kernel
theorem dX8_busiestStation_85 : decode cX8_busiestStation 85 = .ok (.goto (-57), 3) := by decide +kernel
theorem dX8_busiestStation_88 : decode cX8_busiestStation 88 = .ok (.iload 4, 2) := by decide +kernel
theorem dX8_busiestStation_90 : decode cX8_busiestStation 90 = .ok (.iload_n 2, 1) := by decide +kernel
theorem dX8_busiestStation_91 : decode cX8_busiestStation 91 = .ok (.if_icmp .gt 6, 3) := by decide +kernel
theorem dX8_busiestStation_94 : decode cX8_busiestStation 94 = .ok (.goto 8, 3) := by decide +kernel
theorem dX8_busiestStation_97 : decode cX8_busiestStation 97 = .ok (.iload_n 3, 1) := by decide +kernel
theorem dX8_busiestStation_98 : decode cX8_busiestStation 98 = .ok (.istore_n 1, 1) := by decide +kernel
theorem dX8_busiestStation_99 : decode cX8_busiestStation 99 = .ok (.iload 4, 2) := by decide +kernel
theorem dX8_busiestStation_101 : decode cX8_busiestStation 101 = .ok (.istore_n 2, 1) := by decide +kernel
theorem dX8_busiestStation_102 : decode cX8_busiestStation 102 = .ok (.iinc 3 1, 3) := by decide +kernel
theorem dX8_busiestStation_105 : decode cX8_busiestStation 105 = .ok (.goto (-94), 3) := by decide +kernel
theorem dX8_busiestStation_108 : decode cX8_busiestStation 108 = .ok (.iload_n 1, 1) := by decide +kernel
theorem dX8_busiestStation_109 : decode cX8_busiestStation 109 = .ok (.ireturn, 1) := by decide +kernel
theorem dX8_loadOf_0 : decode cX8_loadOf 0 = .ok (.aload_n 0, 1) := by decide +kernel
theorem dX8_loadOf_1 : decode cX8_loadOf 1 = .ok (.aload_n 0, 1) := by decide +kernel
theorem dX8_loadOf_2 : decode cX8_loadOf 2 = .ok (.iload_n 1, 1) := by decide +kernel
theorem dX8_loadOf_3 : decode cX8_loadOf 3 = .ok (.invokevirtual 178, 3) := by decide +kernel
theorem dX8_loadOf_6 : decode cX8_loadOf 6 = .ok (.invokevirtual 181, 3) := by decide +kernel
theorem dX8_loadOf_9 : decode cX8_loadOf 9 = .ok (.ifCond .ne 5, 3) := by decide +kernel
theorem dX8_loadOf_12 : decode cX8_loadOf 12 = .ok (.iconst 0, 1) := by decide +kernel
theorem dX8_loadOf_13 : decode cX8_loadOf 13 = .ok (.ireturn, 1) := by decide +kernel
theorem dX8_loadOf_14 : decode cX8_loadOf 14 = .ok (.iconst 0, 1) := by decide +kernel
theorem dX8_loadOf_15 : decode cX8_loadOf 15 = .ok (.istore_n 2, 1) := by decide +kernel
theorem dX8_loadOf_16 : decode cX8_loadOf 16 = .ok (.iconst 0, 1) := by decide +kernel
theorem dX8_loadOf_17 : decode cX8_loadOf 17 = .ok (.istore_n 3, 1) := by decide +kernel
theorem dX8_loadOf_18 : decode cX8_loadOf 18 = .ok (.iload_n 3, 1) := by decide +kernel
theorem dX8_loadOf_19 : decode cX8_loadOf 19 = .ok (.aload_n 0, 1) := by decide +kernel
theorem dX8_loadOf_20 : decode cX8_loadOf 20 = .ok (.getfield 19, 3) := by decide +kernel
theorem dX8_loadOf_23 : decode cX8_loadOf 23 = .ok (.sipush 404, 3) := by decide +kernel
theorem dX8_loadOf_26 : decode cX8_loadOf 26 = .ok (.iaload, 1) := by decide +kernel
theorem dX8_loadOf_27 : decode cX8_loadOf 27 = .ok (.if_icmp .ge 39, 3) := by decide +kernel
theorem dX8_loadOf_30 : decode cX8_loadOf 30 = .ok (.iload_n 2, 1) := by decide +kernel
theorem dX8_loadOf_31 : decode cX8_loadOf 31 = .ok (.aload_n 0, 1) := by decide +kernel
theorem dX8_loadOf_32 : decode cX8_loadOf 32 = .ok (.iload_n 3, 1) := by decide +kernel
theorem dX8_loadOf_33 : decode cX8_loadOf 33 = .ok (.invokevirtual 203, 3) := by decide +kernel
theorem dX8_loadOf_36 : decode cX8_loadOf 36 = .ok (.ifCond .eq 21, 3) := by decide +kernel
theorem dX8_loadOf_39 : decode cX8_loadOf 39 = .ok (.aload_n 0, 1) := by decide +kernel
theorem dX8_loadOf_40 : decode cX8_loadOf 40 = .ok (.iload_n 3, 1) := by decide +kernel
theorem dX8_loadOf_41 : decode cX8_loadOf 41 = .ok (.iconst 0, 1) := by decide +kernel
theorem dX8_loadOf_42 : decode cX8_loadOf 42 = .ok (.invokevirtual 200, 3) := by decide +kernel
theorem dX8_loadOf_45 : decode cX8_loadOf 45 = .ok (.iload_n 1, 1) := by decide +kernel
theorem dX8_loadOf_46 : decode cX8_loadOf 46 = .ok (.if_icmp .ne 11, 3) := by decide +kernel
theorem dX8_loadOf_49 : decode cX8_loadOf 49 = .ok (.aload_n 0, 1) := by decide +kernel
theorem dX8_loadOf_50 : decode cX8_loadOf 50 = .ok (.iload_n 3, 1) := by decide +kernel
theorem dX8_loadOf_51 : decode cX8_loadOf 51 = .ok (.invokevirtual 209, 3) := by decide +kernel
theorem dX8_loadOf_54 : decode cX8_loadOf 54 = .ok (.goto 4, 3) := by decide +kernel
theorem dX8_loadOf_57 : decode cX8_loadOf 57 = .ok (.iconst 0, 1) := by decide +kernel
theorem dX8_loadOf_58 : decode cX8_loadOf 58 = .ok (.iadd, 1) := by decide +kernel
theorem dX8_loadOf_59 : decode cX8_loadOf 59 = .ok (.istore_n 2, 1) := by decide +kernel
theorem dX8_loadOf_60 : decode cX8_loadOf 60 = .ok (.iinc 3 1, 3) := by decide +kernel
theorem dX8_loadOf_63 : decode cX8_loadOf 63 = .ok (.goto (-45), 3) := by decide +kernel
theorem dX8_loadOf_66 : decode cX8_loadOf 66 = .ok (.iload_n 2, 1) := by decide +kernel
theorem dX8_loadOf_67 : decode cX8_loadOf 67 = .ok (.ireturn, 1) := by decide +kernel
theorem dX8_degradedNow_0 : decode cX8_degradedNow 0 = .ok (.aload_n 0, 1) := by decide +kernel
theorem dX8_degradedNow_1 : decode cX8_degradedNow 1 = .ok (.iconst 0, 1) := by decide +kernel
theorem dX8_degradedNow_2 : decode cX8_degradedNow 2 = .ok (.putfield 47, 3) := by decide +kernel
theorem dX8_degradedNow_5 : decode cX8_degradedNow 5 = .ok (.iconst 0, 1) := by decide +kernel
theorem dX8_degradedNow_6 : decode cX8_degradedNow 6 = .ok (.istore_n 1, 1) := by decide +kernel
theorem dX8_degradedNow_7 : decode cX8_degradedNow 7 = .ok (.iconst 0, 1) := by decide +kernel
theorem dX8_degradedNow_8 : decode cX8_degradedNow 8 = .ok (.istore_n 2, 1) := by decide +kernel
theorem dX8_degradedNow_9 : decode cX8_degradedNow 9 = .ok (.iload_n 2, 1) := by decide +kernel
theorem dX8_degradedNow_10 : decode cX8_degradedNow 10 = .ok (.aload_n 0, 1) := by decide +kernel
theorem dX8_degradedNow_11 : decode cX8_degradedNow 11 = .ok (.getfield 19, 3) := by decide +kernel
theorem dX8_degradedNow_14 : decode cX8_degradedNow 14 = .ok (.sipush 404, 3) := by decide +kernel
theorem dX8_degradedNow_17 : decode cX8_degradedNow 17 = .ok (.iaload, 1) := by decide +kernel
theorem dX8_degradedNow_18 : decode cX8_degradedNow 18 = .ok (.if_icmp .ge 35, 3) := by decide +kernel
theorem dX8_degradedNow_21 : decode cX8_degradedNow 21 = .ok (.iload_n 1, 1) := by decide +kernel
theorem dX8_degradedNow_22 : decode cX8_degradedNow 22 = .ok (.aload_n 0, 1) := by decide +kernel
theorem dX8_degradedNow_23 : decode cX8_degradedNow 23 = .ok (.iload_n 2, 1) := by decide +kernel
theorem dX8_degradedNow_24 : decode cX8_degradedNow 24 = .ok (.invokevirtual 203, 3) := by decide +kernel
theorem dX8_degradedNow_27 : decode cX8_degradedNow 27 = .ok (.ifCond .eq 17, 3) := by decide +kernel
theorem dX8_degradedNow_30 : decode cX8_degradedNow 30 = .ok (.aload_n 0, 1) := by decide +kernel
theorem dX8_degradedNow_31 : decode cX8_degradedNow 31 = .ok (.iload_n 2, 1) := by decide +kernel
theorem dX8_degradedNow_32 : decode cX8_degradedNow 32 = .ok (.invokevirtual 216, 3) := by decide +kernel
theorem dX8_degradedNow_35 : decode cX8_degradedNow 35 = .ok (.ifCond .ge 9, 3) := by decide +kernel
theorem dX8_degradedNow_38 : decode cX8_degradedNow 38 = .ok (.iconst 1, 1) := by decide +kernel
theorem dX8_degradedNow_39 : decode cX8_degradedNow 39 = .ok (.iload_n 2, 1) := by decide +kernel
theorem dX8_degradedNow_40 : decode cX8_degradedNow 40 = .ok (.ishl, 1) := by decide +kernel
theorem dX8_degradedNow_41 : decode cX8_degradedNow 41 = .ok (.goto 4, 3) := by decide +kernel
theorem dX8_degradedNow_44 : decode cX8_degradedNow 44 = .ok (.iconst 0, 1) := by decide +kernel
theorem dX8_degradedNow_45 : decode cX8_degradedNow 45 = .ok (.ior, 1) := by decide +kernel
theorem dX8_degradedNow_46 : decode cX8_degradedNow 46 = .ok (.istore_n 1, 1) := by decide +kernel
theorem dX8_degradedNow_47 : decode cX8_degradedNow 47 = .ok (.iinc 2 1, 3) := by decide +kernel
theorem dX8_degradedNow_50 : decode cX8_degradedNow 50 = .ok (.goto (-41), 3) := by decide +kernel
theorem dX8_degradedNow_53 : decode cX8_degradedNow 53 = .ok (.iload_n 1, 1) := by decide +kernel
theorem dX8_degradedNow_54 : decode cX8_degradedNow 54 = .ok (.ireturn, 1) := by decide +kernel
theorem dX8_fitsBut_0 : decode cX8_fitsBut 0 = .ok (.aload_n 0, 1) := by decide +kernel
theorem dX8_fitsBut_1 : decode cX8_fitsBut 1 = .ok (.aload_n 0, 1) := by decide +kernel
theorem dX8_fitsBut_2 : decode cX8_fitsBut 2 = .ok (.getfield 13, 3) := by decide +kernel
theorem dX8_fitsBut_5 : decode cX8_fitsBut 5 = .ok (.bipush 64, 2) := by decide +kernel
theorem dX8_fitsBut_7 : decode cX8_fitsBut 7 = .ok (.iaload, 1) := by decide +kernel
theorem dX8_fitsBut_8 : decode cX8_fitsBut 8 = .ok (.putfield 138, 3) := by decide +kernel
theorem dX8_fitsBut_11 : decode cX8_fitsBut 11 = .ok (.aload_n 0, 1) := by decide +kernel
theorem dX8_fitsBut_12 : decode cX8_fitsBut 12 = .ok (.iload_n 2, 1) := by decide +kernel
theorem dX8_fitsBut_13 : decode cX8_fitsBut 13 = .ok (.invokevirtual 248, 3) := by decide +kernel
theorem dX8_fitsBut_16 : decode cX8_fitsBut 16 = .ok (.aload_n 0, 1) := by decide +kernel
theorem dX8_fitsBut_17 : decode cX8_fitsBut 17 = .ok (.iload_n 1, 1) := by decide +kernel
theorem dX8_fitsBut_18 : decode cX8_fitsBut 18 = .ok (.invokevirtual 251, 3) := by decide +kernel
theorem dX8_fitsBut_21 : decode cX8_fitsBut 21 = .ok (.ireturn, 1) := by decide +kernel
theorem dX8_fitsWithout_0 : decode cX8_fitsWithout 0 = .ok (.aload_n 0, 1) := by decide +kernel
theorem dX8_fitsWithout_1 : decode cX8_fitsWithout 1 = .ok (.aload_n 0, 1) := by decide +kernel
theorem dX8_fitsWithout_2 : decode cX8_fitsWithout 2 = .ok (.iload_n 1, 1) := by decide +kernel
theorem dX8_fitsWithout_3 : decode cX8_fitsWithout 3 = .ok (.invokevirtual 197, 3) := by decide +kernel
theorem dX8_fitsWithout_6 : decode cX8_fitsWithout 6 = .ok (.invokevirtual 181, 3) := by decide +kernel
theorem dX8_fitsWithout_9 : decode cX8_fitsWithout 9 = .ok (.ifCond .eq 25, 3) := by decide +kernel
theorem dX8_fitsWithout_12 : decode cX8_fitsWithout 12 = .ok (.aload_n 0, 1) := by decide +kernel
theorem dX8_fitsWithout_13 : decode cX8_fitsWithout 13 = .ok (.iload_n 1, 1) := by decide +kernel
theorem dX8_fitsWithout_14 : decode cX8_fitsWithout 14 = .ok (.iconst 5, 1) := by decide +kernel
theorem dX8_fitsWithout_15 : decode cX8_fitsWithout 15 = .ok (.invokevirtual 200, 3) := by decide +kernel
theorem dX8_fitsWithout_18 : decode cX8_fitsWithout 18 = .ok (.ifCond .ne 16, 3) := by decide +kernel
theorem dX8_fitsWithout_21 : decode cX8_fitsWithout 21 = .ok (.aload_n 0, 1) := by decide +kernel
theorem dX8_fitsWithout_22 : decode cX8_fitsWithout 22 = .ok (.iload_n 1, 1) := by decide +kernel
theorem dX8_fitsWithout_23 : decode cX8_fitsWithout 23 = .ok (.iload_n 2, 1) := by decide +kernel
theorem dX8_fitsWithout_24 : decode cX8_fitsWithout 24 = .ok (.invokevirtual 268, 3) := by decide +kernel
theorem dX8_fitsWithout_27 : decode cX8_fitsWithout 27 = .ok (.ifCond .eq 7, 3) := by decide +kernel
theorem dX8_fitsWithout_30 : decode cX8_fitsWithout 30 = .ok (.iconst 1, 1) := by decide +kernel
theorem dX8_fitsWithout_31 : decode cX8_fitsWithout 31 = .ok (.goto 4, 3) := by decide +kernel
theorem dX8_fitsWithout_34 : decode cX8_fitsWithout 34 = .ok (.iconst 0, 1) := by decide +kernel
theorem dX8_fitsWithout_35 : decode cX8_fitsWithout 35 = .ok (.ireturn, 1) := by decide +kernel
theorem dX8_ones_0 : decode cX8_ones 0 = .ok (.iconst 0, 1) := by decide +kernel
theorem dX8_ones_1 : decode cX8_ones 1 = .ok (.istore_n 1, 1) := by decide +kernel
theorem dX8_ones_2 : decode cX8_ones 2 = .ok (.iload_n 0, 1) := by decide +kernel
theorem dX8_ones_3 : decode cX8_ones 3 = .ok (.istore_n 2, 1) := by decide +kernel
theorem dX8_ones_4 : decode cX8_ones 4 = .ok (.iload_n 2, 1) := by decide +kernel
theorem dX8_ones_5 : decode cX8_ones 5 = .ok (.ifCond .eq 15, 3) := by decide +kernel
theorem dX8_ones_8 : decode cX8_ones 8 = .ok (.iinc 1 1, 3) := by decide +kernel
theorem dX8_ones_11 : decode cX8_ones 11 = .ok (.iload_n 2, 1) := by decide +kernel
theorem dX8_ones_12 : decode cX8_ones 12 = .ok (.iload_n 2, 1) := by decide +kernel
theorem dX8_ones_13 : decode cX8_ones 13 = .ok (.iconst 1, 1) := by decide +kernel
theorem dX8_ones_14 : decode cX8_ones 14 = .ok (.isub, 1) := by decide +kernel
theorem dX8_ones_15 : decode cX8_ones 15 = .ok (.iand, 1) := by decide +kernel
theorem dX8_ones_16 : decode cX8_ones 16 = .ok (.istore_n 2, 1) := by decide +kernel
theorem dX8_ones_17 : decode cX8_ones 17 = .ok (.goto (-13), 3) := by decide +kernel
theorem dX8_ones_20 : decode cX8_ones 20 = .ok (.iload_n 1, 1) := by decide +kernel
theorem dX8_ones_21 : decode cX8_ones 21 = .ok (.ireturn, 1) := by decide +kernel
theorem dX8_callsToDrop_0 : decode cX8_callsToDrop 0 = .ok (.aload_n 0, 1) := by decide +kernel
theorem dX8_callsToDrop_1 : decode cX8_callsToDrop 1 = .ok (.aload_n 0, 1) := by decide +kernel
theorem dX8_callsToDrop_2 : decode cX8_callsToDrop 2 = .ok (.iload_n 1, 1) := by decide +kernel
theorem dX8_callsToDrop_3 : decode cX8_callsToDrop 3 = .ok (.invokevirtual 197, 3) := by decide +kernel
theorem dX8_callsToDrop_6 : decode cX8_callsToDrop 6 = .ok (.invokevirtual 181, 3) := by decide +kernel
theorem dX8_callsToDrop_9 : decode cX8_callsToDrop 9 = .ok (.ifCond .ne 5, 3) := by decide +kernel
theorem dX8_callsToDrop_12 : decode cX8_callsToDrop 12 = .ok (.iconst 0, 1) := by decide +kernel
theorem dX8_callsToDrop_13 : decode cX8_callsToDrop 13 = .ok (.ireturn, 1) := by decide +kernel
theorem dX8_callsToDrop_14 : decode cX8_callsToDrop 14 = .ok (.aload_n 0, 1) := by decide +kernel
theorem dX8_callsToDrop_15 : decode cX8_callsToDrop 15 = .ok (.iload_n 1, 1) := by decide +kernel
theorem dX8_callsToDrop_16 : decode cX8_callsToDrop 16 = .ok (.iconst 5, 1) := by decide +kernel
theorem dX8_callsToDrop_17 : decode cX8_callsToDrop 17 = .ok (.invokevirtual 200, 3) := by decide +kernel
theorem dX8_callsToDrop_20 : decode cX8_callsToDrop 20 = .ok (.ifCond .eq 5, 3) := by decide +kernel
theorem dX8_callsToDrop_23 : decode cX8_callsToDrop 23 = .ok (.iconst (-1), 1) := by decide +kernel
theorem dX8_callsToDrop_24 : decode cX8_callsToDrop 24 = .ok (.ireturn, 1) := by decide +kernel
theorem dX8_callsToDrop_25 : decode cX8_callsToDrop 25 = .ok (.iconst 0, 1) := by decide +kernel
theorem dX8_callsToDrop_26 : decode cX8_callsToDrop 26 = .ok (.istore_n 2, 1) := by decide +kernel
theorem dX8_callsToDrop_27 : decode cX8_callsToDrop 27 = .ok (.iconst 0, 1) := by decide +kernel
theorem dX8_callsToDrop_28 : decode cX8_callsToDrop 28 = .ok (.istore_n 3, 1) := by decide +kernel
theorem dX8_callsToDrop_29 : decode cX8_callsToDrop 29 = .ok (.iload_n 3, 1) := by decide +kernel
theorem dX8_callsToDrop_30 : decode cX8_callsToDrop 30 = .ok (.aload_n 0, 1) := by decide +kernel
theorem dX8_callsToDrop_31 : decode cX8_callsToDrop 31 = .ok (.getfield 19, 3) := by decide +kernel
theorem dX8_callsToDrop_34 : decode cX8_callsToDrop 34 = .ok (.sipush 404, 3) := by decide +kernel
theorem dX8_callsToDrop_37 : decode cX8_callsToDrop 37 = .ok (.iaload, 1) := by decide +kernel
theorem dX8_callsToDrop_38 : decode cX8_callsToDrop 38 = .ok (.if_icmp .ge 42, 3) := by decide +kernel
theorem dX8_callsToDrop_41 : decode cX8_callsToDrop 41 = .ok (.iload_n 2, 1) := by decide +kernel
theorem dX8_callsToDrop_42 : decode cX8_callsToDrop 42 = .ok (.aload_n 0, 1) := by decide +kernel
theorem dX8_callsToDrop_43 : decode cX8_callsToDrop 43 = .ok (.iload_n 3, 1) := by decide +kernel
theorem dX8_callsToDrop_44 : decode cX8_callsToDrop 44 = .ok (.invokevirtual 203, 3) := by decide +kernel
theorem dX8_callsToDrop_47 : decode cX8_callsToDrop 47 = .ok (.ifCond .eq 24, 3) := by decide +kernel
theorem dX8_callsToDrop_50 : decode cX8_callsToDrop 50 = .ok (.aload_n 0, 1) := by decide +kernel
theorem dX8_callsToDrop_51 : decode cX8_callsToDrop 51 = .ok (.iload_n 3, 1) := by decide +kernel
theorem dX8_callsToDrop_52 : decode cX8_callsToDrop 52 = .ok (.iconst 2, 1) := by decide +kernel
theorem dX8_callsToDrop_53 : decode cX8_callsToDrop 53 = .ok (.invokevirtual 200, 3) := by decide +kernel
theorem dX8_callsToDrop_56 : decode cX8_callsToDrop 56 = .ok (.aload_n 0, 1) := by decide +kernel
theorem dX8_callsToDrop_57 : decode cX8_callsToDrop 57 = .ok (.iload_n 1, 1) := by decide +kernel
theorem dX8_callsToDrop_58 : decode cX8_callsToDrop 58 = .ok (.iconst 2, 1) := by decide +kernel
theorem dX8_callsToDrop_59 : decode cX8_callsToDrop 59 = .ok (.invokevirtual 200, 3) := by decide +kernel
theorem dX8_callsToDrop_62 : decode cX8_callsToDrop 62 = .ok (.if_icmp .ge 9, 3) := by decide +kernel
theorem dX8_callsToDrop_65 : decode cX8_callsToDrop 65 = .ok (.iconst 1, 1) := by decide +kernel
theorem dX8_callsToDrop_66 : decode cX8_callsToDrop 66 = .ok (.iload_n 3, 1) := by decide +kernel
theorem dX8_callsToDrop_67 : decode cX8_callsToDrop 67 = .ok (.ishl, 1) := by decide +kernel
theorem dX8_callsToDrop_68 : decode cX8_callsToDrop 68 = .ok (.goto 4, 3) := by decide +kernel
theorem dX8_callsToDrop_71 : decode cX8_callsToDrop 71 = .ok (.iconst 0, 1) := by decide +kernel
theorem dX8_callsToDrop_72 : decode cX8_callsToDrop 72 = .ok (.ior, 1) := by decide +kernel
theorem dX8_callsToDrop_73 : decode cX8_callsToDrop 73 = .ok (.istore_n 2, 1) := by decide +kernel
theorem dX8_callsToDrop_74 : decode cX8_callsToDrop 74 = .ok (.iinc 3 1, 3) := by decide +kernel
theorem dX8_callsToDrop_77 : decode cX8_callsToDrop 77 = .ok (.goto (-48), 3) := by decide +kernel
theorem dX8_callsToDrop_80 : decode cX8_callsToDrop 80 = .ok (.aload_n 0, 1) := by decide +kernel
theorem dX8_callsToDrop_81 : decode cX8_callsToDrop 81 = .ok (.iload_n 1, 1) := by decide +kernel
theorem dX8_callsToDrop_82 : decode cX8_callsToDrop 82 = .ok (.iload_n 2, 1) := by decide +kernel
theorem dX8_callsToDrop_83 : decode cX8_callsToDrop 83 = .ok (.invokevirtual 268, 3) := by decide +kernel
theorem dX8_callsToDrop_86 : decode cX8_callsToDrop 86 = .ok (.ifCond .eq 7, 3) := by decide +kernel
theorem dX8_callsToDrop_89 : decode cX8_callsToDrop 89 = .ok (.iload_n 2, 1) := by decide +kernel
theorem dX8_callsToDrop_90 : decode cX8_callsToDrop 90 = .ok (.goto 4, 3) := by decide +kernel
theorem dX8_callsToDrop_93 : decode cX8_callsToDrop 93 = .ok (.iconst (-1), 1) := by decide +kernel
theorem dX8_callsToDrop_94 : decode cX8_callsToDrop 94 = .ok (.istore_n 3, 1) := by decide +kernel
theorem dX8_callsToDrop_95 : decode cX8_callsToDrop 95 = .ok (.iconst 0, 1) := by decide +kernel
theorem dX8_callsToDrop_96 : decode cX8_callsToDrop 96 = .ok (.istore 4, 2) := by decide +kernel
theorem dX8_callsToDrop_98 : decode cX8_callsToDrop 98 = .ok (.iload 4, 2) := by decide +kernel
theorem dX8_callsToDrop_100 : decode cX8_callsToDrop 100 = .ok (.iload_n 2, 1) := by decide +kernel
theorem dX8_callsToDrop_101 : decode cX8_callsToDrop 101 = .ok (.if_icmp .gt 78, 3) := by decide +kernel
theorem dX8_callsToDrop_104 : decode cX8_callsToDrop 104 = .ok (.iload_n 3, 1) := by decide +kernel
theorem dX8_callsToDrop_105 : decode cX8_callsToDrop 105 = .ok (.iconst (-1), 1) := by decide +kernel
theorem dX8_callsToDrop_106 : decode cX8_callsToDrop 106 = .ok (.if_icmp .eq 73, 3) := by decide +kernel
theorem dX8_callsToDrop_109 : decode cX8_callsToDrop 109 = .ok (.iload 4, 2) := by decide +kernel
theorem dX8_callsToDrop_111 : decode cX8_callsToDrop 111 = .ok (.invokestatic 271, 3) := by decide +kernel
theorem dX8_callsToDrop_114 : decode cX8_callsToDrop 114 = .ok (.iload_n 3, 1) := by decide +kernel
theorem dX8_callsToDrop_115 : decode cX8_callsToDrop 115 = .ok (.invokestatic 271, 3) := by decide +kernel
theorem dX8_callsToDrop_118 : decode cX8_callsToDrop 118 = .ok (.if_icmp .lt 21, 3) := by decide +kernel
theorem dX8_callsToDrop_121 : decode cX8_callsToDrop 121 = .ok (.iload 4, 2) := by decide +kernel
theorem dX8_callsToDrop_123 : decode cX8_callsToDrop 123 = .ok (.invokestatic 271, 3) := by decide +kernel
theorem dX8_callsToDrop_126 : decode cX8_callsToDrop 126 = .ok (.iload_n 3, 1) := by decide +kernel
theorem dX8_callsToDrop_127 : decode cX8_callsToDrop 127 = .ok (.invokestatic 271, 3) := by decide +kernel
theorem dX8_callsToDrop_130 : decode cX8_callsToDrop 130 = .ok (.if_icmp .ne 13, 3) := by decide +kernel
theorem dX8_callsToDrop_133 : decode cX8_callsToDrop 133 = .ok (.iload 4, 2) := by decide +kernel
theorem dX8_callsToDrop_135 : decode cX8_callsToDrop 135 = .ok (.iload_n 3, 1) := by decide +kernel
theorem dX8_callsToDrop_136 : decode cX8_callsToDrop 136 = .ok (.if_icmp .ge 7, 3) := by decide +kernel
theorem dX8_callsToDrop_139 : decode cX8_callsToDrop 139 = .ok (.iconst 1, 1) := by decide +kernel
theorem dX8_callsToDrop_140 : decode cX8_callsToDrop 140 = .ok (.goto 4, 3) := by decide +kernel
theorem dX8_callsToDrop_143 : decode cX8_callsToDrop 143 = .ok (.iconst 0, 1) := by decide +kernel
theorem dX8_callsToDrop_144 : decode cX8_callsToDrop 144 = .ok (.istore 5, 2) := by decide +kernel
theorem dX8_callsToDrop_146 : decode cX8_callsToDrop 146 = .ok (.iload 4, 2) := by decide +kernel
theorem dX8_callsToDrop_148 : decode cX8_callsToDrop 148 = .ok (.iload_n 2, 1) := by decide +kernel
theorem dX8_callsToDrop_149 : decode cX8_callsToDrop 149 = .ok (.iconst (-1), 1) := by decide +kernel
theorem dX8_callsToDrop_150 : decode cX8_callsToDrop 150 = .ok (.ixor, 1) := by decide +kernel
theorem dX8_callsToDrop_151 : decode cX8_callsToDrop 151 = .ok (.iand, 1) := by decide +kernel
theorem dX8_callsToDrop_152 : decode cX8_callsToDrop 152 = .ok (.ifCond .ne 21, 3) := by decide +kernel
theorem dX8_callsToDrop_155 : decode cX8_callsToDrop 155 = .ok (.iload 5, 2) := by decide +kernel
theorem dX8_callsToDrop_157 : decode cX8_callsToDrop 157 = .ok (.ifCond .eq 16, 3) := by decide +kernel
theorem dX8_callsToDrop_160 : decode cX8_callsToDrop 160 = .ok (.aload_n 0, 1) := by decide +kernel
theorem dX8_callsToDrop_161 : decode cX8_callsToDrop 161 = .ok (.iload_n 1, 1) := by decide +kernel
theorem dX8_callsToDrop_162 : decode cX8_callsToDrop 162 = .ok (.iload 4, 2) := by decide +kernel
theorem dX8_callsToDrop_164 : decode cX8_callsToDrop 164 = .ok (.invokevirtual 268, 3) := by decide +kernel
theorem dX8_callsToDrop_167 : decode cX8_callsToDrop 167 = .ok (.ifCond .eq 6, 3) := by decide +kernel
theorem dX8_callsToDrop_170 : decode cX8_callsToDrop 170 = .ok (.iload 4, 2) := by decide +kernel
theorem dX8_callsToDrop_172 : decode cX8_callsToDrop 172 = .ok (.istore_n 3, 1) := by decide +kernel
theorem dX8_callsToDrop_173 : decode cX8_callsToDrop 173 = .ok (.iinc 4 1, 3) := by decide +kernel
theorem dX8_callsToDrop_176 : decode cX8_callsToDrop 176 = .ok (.goto (-78), 3) := by decide +kernel
theorem dX8_callsToDrop_179 : decode cX8_callsToDrop 179 = .ok (.iload_n 3, 1) := by decide +kernel
theorem dX8_callsToDrop_180 : decode cX8_callsToDrop 180 = .ok (.ireturn, 1) := by decide +kernel
theorem dX8_findsAll_0 : decode cX8_findsAll 0 = .ok (.aload_n 0, 1) := by decide +kernel
theorem dX8_findsAll_1 : decode cX8_findsAll 1 = .ok (.iload_n 2, 1) := by decide +kernel
theorem dX8_findsAll_2 : decode cX8_findsAll 2 = .ok (.putfield 138, 3) := by decide +kernel
theorem dX8_findsAll_5 : decode cX8_findsAll 5 = .ok (.iconst 0, 1) := by decide +kernel
theorem dX8_findsAll_6 : decode cX8_findsAll 6 = .ok (.istore_n 3, 1) := by decide +kernel
theorem dX8_findsAll_7 : decode cX8_findsAll 7 = .ok (.iload_n 3, 1) := by decide +kernel
theorem dX8_findsAll_8 : decode cX8_findsAll 8 = .ok (.bipush 16, 2) := by decide +kernel
theorem dX8_findsAll_10 : decode cX8_findsAll 10 = .ok (.if_icmp .ge 23, 3) := by decide +kernel
theorem dX8_findsAll_13 : decode cX8_findsAll 13 = .ok (.aload_n 0, 1) := by decide +kernel
theorem dX8_findsAll_14 : decode cX8_findsAll 14 = .ok (.getfield 35, 3) := by decide +kernel
theorem dX8_findsAll_17 : decode cX8_findsAll 17 = .ok (.iload_n 3, 1) := by decide +kernel
theorem dX8_findsAll_18 : decode cX8_findsAll 18 = .ok (.iconst (-1), 1) := by decide +kernel
theorem dX8_findsAll_19 : decode cX8_findsAll 19 = .ok (.iastore, 1) := by decide +kernel
theorem dX8_findsAll_20 : decode cX8_findsAll 20 = .ok (.aload_n 0, 1) := by decide +kernel
theorem dX8_findsAll_21 : decode cX8_findsAll 21 = .ok (.getfield 38, 3) := by decide +kernel
theorem dX8_findsAll_24 : decode cX8_findsAll 24 = .ok (.iload_n 3, 1) := by decide +kernel
theorem dX8_findsAll_25 : decode cX8_findsAll 25 = .ok (.iconst (-1), 1) := by decide +kernel
theorem dX8_findsAll_26 : decode cX8_findsAll 26 = .ok (.iastore, 1) := by decide +kernel
theorem dX8_findsAll_27 : decode cX8_findsAll 27 = .ok (.iinc 3 1, 3) := by decide +kernel
theorem dX8_findsAll_30 : decode cX8_findsAll 30 = .ok (.goto (-23), 3) := by decide +kernel
theorem dX8_findsAll_33 : decode cX8_findsAll 33 = .ok (.aload_n 0, 1) := by decide +kernel
theorem dX8_findsAll_34 : decode cX8_findsAll 34 = .ok (.iload_n 1, 1) := by decide +kernel
theorem dX8_findsAll_35 : decode cX8_findsAll 35 = .ok (.invokevirtual 226, 3) := by decide +kernel
theorem dX8_findsAll_38 : decode cX8_findsAll 38 = .ok (.iconst 0, 1) := by decide +kernel
theorem dX8_findsAll_39 : decode cX8_findsAll 39 = .ok (.istore_n 3, 1) := by decide +kernel
theorem dX8_findsAll_40 : decode cX8_findsAll 40 = .ok (.iload_n 3, 1) := by decide +kernel
theorem dX8_findsAll_41 : decode cX8_findsAll 41 = .ok (.aload_n 0, 1) := by decide +kernel
theorem dX8_findsAll_42 : decode cX8_findsAll 42 = .ok (.getfield 219, 3) := by decide +kernel
theorem dX8_findsAll_45 : decode cX8_findsAll 45 = .ok (.if_icmp .ge 54, 3) := by decide +kernel
theorem dX8_findsAll_48 : decode cX8_findsAll 48 = .ok (.aload_n 0, 1) := by decide +kernel
theorem dX8_findsAll_49 : decode cX8_findsAll 49 = .ok (.aload_n 0, 1) := by decide +kernel
theorem dX8_findsAll_50 : decode cX8_findsAll 50 = .ok (.getfield 32, 3) := by decide +kernel
theorem dX8_findsAll_53 : decode cX8_findsAll 53 = .ok (.iload_n 3, 1) := by decide +kernel
theorem dX8_findsAll_54 : decode cX8_findsAll 54 = .ok (.iaload, 1) := by decide +kernel
theorem dX8_findsAll_55 : decode cX8_findsAll 55 = .ok (.invokevirtual 251, 3) := by decide +kernel
theorem dX8_findsAll_58 : decode cX8_findsAll 58 = .ok (.ifCond .ne 5, 3) := by decide +kernel
theorem dX8_findsAll_61 : decode cX8_findsAll 61 = .ok (.iconst 0, 1) := by decide +kernel
theorem dX8_findsAll_62 : decode cX8_findsAll 62 = .ok (.ireturn, 1) := by decide +kernel
theorem dX8_findsAll_63 : decode cX8_findsAll 63 = .ok (.aload_n 0, 1) := by decide +kernel
theorem dX8_findsAll_64 : decode cX8_findsAll 64 = .ok (.getfield 35, 3) := by decide +kernel
theorem dX8_findsAll_67 : decode cX8_findsAll 67 = .ok (.aload_n 0, 1) := by decide +kernel
theorem dX8_findsAll_68 : decode cX8_findsAll 68 = .ok (.getfield 32, 3) := by decide +kernel
theorem dX8_findsAll_71 : decode cX8_findsAll 71 = .ok (.iload_n 3, 1) := by decide +kernel
theorem dX8_findsAll_72 : decode cX8_findsAll 72 = .ok (.iaload, 1) := by decide +kernel
theorem dX8_findsAll_73 : decode cX8_findsAll 73 = .ok (.aload_n 0, 1) := by decide +kernel
theorem dX8_findsAll_74 : decode cX8_findsAll 74 = .ok (.getfield 230, 3) := by decide +kernel
theorem dX8_findsAll_77 : decode cX8_findsAll 77 = .ok (.iastore, 1) := by decide +kernel
theorem dX8_findsAll_78 : decode cX8_findsAll 78 = .ok (.aload_n 0, 1) := by decide +kernel
theorem dX8_findsAll_79 : decode cX8_findsAll 79 = .ok (.getfield 38, 3) := by decide +kernel
theorem dX8_findsAll_82 : decode cX8_findsAll 82 = .ok (.aload_n 0, 1) := by decide +kernel
theorem dX8_findsAll_83 : decode cX8_findsAll 83 = .ok (.getfield 32, 3) := by decide +kernel
theorem dX8_findsAll_86 : decode cX8_findsAll 86 = .ok (.iload_n 3, 1) := by decide +kernel
theorem dX8_findsAll_87 : decode cX8_findsAll 87 = .ok (.iaload, 1) := by decide +kernel
theorem dX8_findsAll_88 : decode cX8_findsAll 88 = .ok (.aload_n 0, 1) := by decide +kernel
theorem dX8_findsAll_89 : decode cX8_findsAll 89 = .ok (.getfield 233, 3) := by decide +kernel
theorem dX8_findsAll_92 : decode cX8_findsAll 92 = .ok (.iastore, 1) := by decide +kernel
theorem dX8_findsAll_93 : decode cX8_findsAll 93 = .ok (.iinc 3 1, 3) := by decide +kernel
theorem dX8_findsAll_96 : decode cX8_findsAll 96 = .ok (.goto (-56), 3) := by decide +kernel
theorem dX8_findsAll_99 : decode cX8_findsAll 99 = .ok (.iconst 1, 1) := by decide +kernel
theorem dX8_findsAll_100 : decode cX8_findsAll 100 = .ok (.ireturn, 1) := by decide +kernel
theorem dX8_carriersNeeded_0 : decode cX8_carriersNeeded 0 = .ok (.aload_n 0, 1) := by decide +kernel
theorem dX8_carriersNeeded_1 : decode cX8_carriersNeeded 1 = .ok (.iconst 0, 1) := by decide +kernel
theorem dX8_carriersNeeded_2 : decode cX8_carriersNeeded 2 = .ok (.putfield 47, 3) := by decide +kernel
theorem dX8_carriersNeeded_5 : decode cX8_carriersNeeded 5 = .ok (.iconst 1, 1) := by decide +kernel
theorem dX8_carriersNeeded_6 : decode cX8_carriersNeeded 6 = .ok (.istore_n 1, 1) := by decide +kernel
theorem dX8_carriersNeeded_7 : decode cX8_carriersNeeded 7 = .ok (.iload_n 1, 1) := by decide +kernel
theorem dX8_carriersNeeded_8 : decode cX8_carriersNeeded 8 = .ok (.iconst 4, 1) := by decide +kernel
theorem dX8_carriersNeeded_9 : decode cX8_carriersNeeded 9 = .ok (.if_icmp .gt 20, 3) := by decide +kernel
theorem dX8_carriersNeeded_12 : decode cX8_carriersNeeded 12 = .ok (.aload_n 0, 1) := by decide +kernel
theorem dX8_carriersNeeded_13 : decode cX8_carriersNeeded 13 = .ok (.iconst 3, 1) := by decide +kernel
theorem dX8_carriersNeeded_14 : decode cX8_carriersNeeded 14 = .ok (.iload_n 1, 1) := by decide +kernel
theorem dX8_carriersNeeded_15 : decode cX8_carriersNeeded 15 = .ok (.invokevirtual 274, 3) := by decide +kernel
theorem dX8_carriersNeeded_18 : decode cX8_carriersNeeded 18 = .ok (.ifCond .eq 5, 3) := by decide +kernel
theorem dX8_carriersNeeded_21 : decode cX8_carriersNeeded 21 = .ok (.iload_n 1, 1) := by decide +kernel
theorem dX8_carriersNeeded_22 : decode cX8_carriersNeeded 22 = .ok (.ireturn, 1) := by decide +kernel
theorem dX8_carriersNeeded_23 : decode cX8_carriersNeeded 23 = .ok (.iinc 1 1, 3) := by decide +kernel
theorem dX8_carriersNeeded_26 : decode cX8_carriersNeeded 26 = .ok (.goto (-19), 3) := by decide +kernel
theorem dX8_carriersNeeded_29 : decode cX8_carriersNeeded 29 = .ok (.iconst (-1), 1) := by decide +kernel
theorem dX8_carriersNeeded_30 : decode cX8_carriersNeeded 30 = .ok (.ireturn, 1) := by decide +kernel
theorem dX8_moved_0 : decode cX8_moved 0 = .ok (.aload_n 0, 1) := by decide +kernel
theorem dX8_moved_1 : decode cX8_moved 1 = .ok (.getfield 13, 3) := by decide +kernel
theorem dX8_moved_4 : decode cX8_moved 4 = .ok (.bipush 24, 2) := by decide +kernel
theorem dX8_moved_6 : decode cX8_moved 6 = .ok (.iload_n 1, 1) := by decide +kernel
theorem dX8_moved_7 : decode cX8_moved 7 = .ok (.iadd, 1) := by decide +kernel
theorem dX8_moved_8 : decode cX8_moved 8 = .ok (.iaload, 1) := by decide +kernel
theorem dX8_moved_9 : decode cX8_moved 9 = .ok (.aload_n 0, 1) := by decide +kernel
theorem dX8_moved_10 : decode cX8_moved 10 = .ok (.getfield 13, 3) := by decide +kernel
theorem dX8_moved_13 : decode cX8_moved 13 = .ok (.bipush 18, 2) := by decide +kernel
theorem dX8_moved_15 : decode cX8_moved 15 = .ok (.iload_n 1, 1) := by decide +kernel
theorem dX8_moved_16 : decode cX8_moved 16 = .ok (.iadd, 1) := by decide +kernel
theorem dX8_moved_17 : decode cX8_moved 17 = .ok (.iaload, 1) := by decide +kernel
theorem dX8_moved_18 : decode cX8_moved 18 = .ok (.aload_n 0, 1) := by decide +kernel
theorem dX8_moved_19 : decode cX8_moved 19 = .ok (.iload_n 1, 1) := by decide +kernel
theorem dX8_moved_20 : decode cX8_moved 20 = .ok (.iload_n 3, 1) := by decide +kernel
theorem dX8_moved_21 : decode cX8_moved 21 = .ok (.invokevirtual 188, 3) := by decide +kernel
theorem dX8_moved_24 : decode cX8_moved 24 = .ok (.iadd, 1) := by decide +kernel
theorem dX8_moved_25 : decode cX8_moved 25 = .ok (.invokestatic 257, 3) := by decide +kernel
theorem dX8_moved_28 : decode cX8_moved 28 = .ok (.istore 4, 2) := by decide +kernel
theorem dX8_moved_30 : decode cX8_moved 30 = .ok (.aload_n 0, 1) := by decide +kernel
theorem dX8_moved_31 : decode cX8_moved 31 = .ok (.getfield 19, 3) := by decide +kernel
theorem dX8_moved_34 : decode cX8_moved 34 = .ok (.bipush 6, 2) := by decide +kernel
theorem dX8_moved_36 : decode cX8_moved 36 = .ok (.iaload, 1) := by decide +kernel
theorem dX8_moved_37 : decode cX8_moved 37 = .ok (.istore 5, 2) := by decide +kernel
theorem dX8_moved_39 : decode cX8_moved 39 = .ok (.iload 4, 2) := by decide +kernel
theorem dX8_moved_41 : decode cX8_moved 41 = .ok (.iload_n 2, 1) := by decide +kernel
theorem dX8_moved_42 : decode cX8_moved 42 = .ok (.if_icmp .le 15, 3) := by decide +kernel
theorem dX8_moved_45 : decode cX8_moved 45 = .ok (.iload 4, 2) := by decide +kernel
theorem dX8_moved_47 : decode cX8_moved 47 = .ok (.iload_n 2, 1) := by decide +kernel
theorem dX8_moved_48 : decode cX8_moved 48 = .ok (.iload 5, 2) := by decide +kernel
theorem dX8_moved_50 : decode cX8_moved 50 = .ok (.iadd, 1) := by decide +kernel
theorem dX8_moved_51 : decode cX8_moved 51 = .ok (.invokestatic 257, 3) := by decide +kernel
theorem dX8_moved_54 : decode cX8_moved 54 = .ok (.goto 12, 3) := by decide +kernel
theorem dX8_moved_57 : decode cX8_moved 57 = .ok (.iload 4, 2) := by decide +kernel
theorem dX8_moved_59 : decode cX8_moved 59 = .ok (.iload_n 2, 1) := by decide +kernel
theorem dX8_moved_60 : decode cX8_moved 60 = .ok (.iload 5, 2) := by decide +kernel
theorem dX8_moved_62 : decode cX8_moved 62 = .ok (.isub, 1) := by decide +kernel
theorem dX8_moved_63 : decode cX8_moved 63 = .ok (.invokestatic 265, 3) := by decide +kernel
theorem dX8_moved_66 : decode cX8_moved 66 = .ok (.ireturn, 1) := by decide +kernel
theorem dX8_strays_0 : decode cX8_strays 0 = .ok (.iload_n 2, 1) := by decide +kernel
theorem dX8_strays_1 : decode cX8_strays 1 = .ok (.iconst 1, 1) := by decide +kernel
theorem dX8_strays_2 : decode cX8_strays 2 = .ok (.isub, 1) := by decide +kernel
theorem dX8_strays_3 : decode cX8_strays 3 = .ok (.aload_n 0, 1) := by decide +kernel
theorem dX8_strays_4 : decode cX8_strays 4 = .ok (.iload_n 1, 1) := by decide +kernel
theorem dX8_strays_5 : decode cX8_strays 5 = .ok (.invokevirtual 194, 3) := by decide +kernel
theorem dX8_strays_8 : decode cX8_strays 8 = .ok (.isub, 1) := by decide +kernel
theorem dX8_strays_9 : decode cX8_strays 9 = .ok (.istore_n 3, 1) := by decide +kernel
theorem dX8_strays_10 : decode cX8_strays 10 = .ok (.iload_n 3, 1) := by decide +kernel
theorem dX8_strays_11 : decode cX8_strays 11 = .ok (.ifCond .ge 7, 3) := by decide +kernel
theorem dX8_strays_14 : decode cX8_strays 14 = .ok (.iconst 0, 1) := by decide +kernel
theorem dX8_strays_15 : decode cX8_strays 15 = .ok (.goto 25, 3) := by decide +kernel
theorem dX8_strays_18 : decode cX8_strays 18 = .ok (.aload_n 0, 1) := by decide +kernel
theorem dX8_strays_19 : decode cX8_strays 19 = .ok (.getfield 19, 3) := by decide +kernel
theorem dX8_strays_22 : decode cX8_strays 22 = .ok (.aload_n 0, 1) := by decide +kernel
theorem dX8_strays_23 : decode cX8_strays 23 = .ok (.iload_n 1, 1) := by decide +kernel
theorem dX8_strays_24 : decode cX8_strays 24 = .ok (.iload_n 3, 1) := by decide +kernel
theorem dX8_strays_25 : decode cX8_strays 25 = .ok (.invokevirtual 191, 3) := by decide +kernel
theorem dX8_strays_28 : decode cX8_strays 28 = .ok (.iaload, 1) := by decide +kernel
theorem dX8_strays_29 : decode cX8_strays 29 = .ok (.aload_n 0, 1) := by decide +kernel
theorem dX8_strays_30 : decode cX8_strays 30 = .ok (.getfield 19, 3) := by decide +kernel
theorem dX8_strays_33 : decode cX8_strays 33 = .ok (.bipush 7, 2) := by decide +kernel
theorem dX8_strays_35 : decode cX8_strays 35 = .ok (.iaload, 1) := by decide +kernel
theorem dX8_strays_36 : decode cX8_strays 36 = .ok (.imul, 1) := by decide +kernel
theorem dX8_strays_37 : decode cX8_strays 37 = .ok (.bipush 100, 2) := by decide +kernel
theorem dX8_strays_39 : decode cX8_strays 39 = .ok (.idiv, 1) := by decide +kernel
theorem dX8_strays_40 : decode cX8_strays 40 = .ok (.istore 4, 2) := by decide +kernel
theorem dX8_strays_42 : decode cX8_strays 42 = .ok (.aload_n 0, 1) := by decide +kernel
theorem dX8_strays_43 : decode cX8_strays 43 = .ok (.getfield 19, 3) := by decide +kernel
theorem dX8_strays_46 : decode cX8_strays 46 = .ok (.aload_n 0, 1) := by decide +kernel
theorem dX8_strays_47 : decode cX8_strays 47 = .ok (.iload_n 1, 1) := by decide +kernel
theorem dX8_strays_48 : decode cX8_strays 48 = .ok (.iload_n 2, 1) := by decide +kernel
theorem dX8_strays_49 : decode cX8_strays 49 = .ok (.iconst 1, 1) := by decide +kernel
theorem dX8_strays_50 : decode cX8_strays 50 = .ok (.isub, 1) := by decide +kernel
theorem dX8_strays_51 : decode cX8_strays 51 = .ok (.invokevirtual 191, 3) := by decide +kernel
theorem dX8_strays_54 : decode cX8_strays 54 = .ok (.iaload, 1) := by decide +kernel
theorem dX8_strays_55 : decode cX8_strays 55 = .ok (.aload_n 0, 1) := by decide +kernel
theorem dX8_strays_56 : decode cX8_strays 56 = .ok (.getfield 13, 3) := by decide +kernel
theorem dX8_strays_59 : decode cX8_strays 59 = .ok (.bipush 12, 2) := by decide +kernel
theorem dX8_strays_61 : decode cX8_strays 61 = .ok (.iload_n 1, 1) := by decide +kernel
theorem dX8_strays_62 : decode cX8_strays 62 = .ok (.iadd, 1) := by decide +kernel
theorem dX8_strays_63 : decode cX8_strays 63 = .ok (.iaload, 1) := by decide +kernel
theorem dX8_strays_64 : decode cX8_strays 64 = .ok (.iadd, 1) := by decide +kernel
theorem dX8_strays_65 : decode cX8_strays 65 = .ok (.iload 4, 2) := by decide +kernel
theorem dX8_strays_67 : decode cX8_strays 67 = .ok (.isub, 1) := by decide +kernel
theorem dX8_strays_68 : decode cX8_strays 68 = .ok (.istore 5, 2) := by decide +kernel
theorem dX8_strays_70 : decode cX8_strays 70 = .ok (.aload_n 0, 1) := by decide +kernel
theorem dX8_strays_71 : decode cX8_strays 71 = .ok (.getfield 19, 3) := by decide +kernel
theorem dX8_strays_74 : decode cX8_strays 74 = .ok (.aload_n 0, 1) := by decide +kernel
theorem dX8_strays_75 : decode cX8_strays 75 = .ok (.iload_n 1, 1) := by decide +kernel
theorem dX8_strays_76 : decode cX8_strays 76 = .ok (.iload_n 2, 1) := by decide +kernel
theorem dX8_strays_77 : decode cX8_strays 77 = .ok (.invokevirtual 191, 3) := by decide +kernel
theorem dX8_strays_80 : decode cX8_strays 80 = .ok (.ldc_w 277, 3) := by decide +kernel
theorem dX8_strays_83 : decode cX8_strays 83 = .ok (.ldc 92, 2) := by decide +kernel
theorem dX8_strays_85 : decode cX8_strays 85 = .ok (.iload 5, 2) := by decide +kernel
theorem dX8_strays_87 : decode cX8_strays 87 = .ok (.invokestatic 257, 3) := by decide +kernel
theorem dX8_strays_90 : decode cX8_strays 90 = .ok (.invokestatic 265, 3) := by decide +kernel
theorem dX8_strays_93 : decode cX8_strays 93 = .ok (.iastore, 1) := by decide +kernel
theorem dX8_strays_94 : decode cX8_strays 94 = .ok (.return_, 1) := by decide +kernel
theorem dX8_errorAfter_0 : decode cX8_errorAfter 0 = .ok (.aload_n 0, 1) := by decide +kernel
theorem dX8_errorAfter_1 : decode cX8_errorAfter 1 = .ok (.aload_n 0, 1) := by decide +kernel
theorem dX8_errorAfter_2 : decode cX8_errorAfter 2 = .ok (.iload_n 1, 1) := by decide +kernel
theorem dX8_errorAfter_3 : decode cX8_errorAfter 3 = .ok (.invokevirtual 178, 3) := by decide +kernel
theorem dX8_errorAfter_6 : decode cX8_errorAfter 6 = .ok (.invokevirtual 181, 3) := by decide +kernel
theorem dX8_errorAfter_9 : decode cX8_errorAfter 9 = .ok (.ifCond .ne 5, 3) := by decide +kernel
theorem dX8_errorAfter_12 : decode cX8_errorAfter 12 = .ok (.iconst 0, 1) := by decide +kernel
theorem dX8_errorAfter_13 : decode cX8_errorAfter 13 = .ok (.ireturn, 1) := by decide +kernel
theorem dX8_errorAfter_14 : decode cX8_errorAfter 14 = .ok (.iload_n 2, 1) := by decide +kernel
theorem dX8_errorAfter_15 : decode cX8_errorAfter 15 = .ok (.ifCond .lt 10, 3) := by decide +kernel
theorem dX8_errorAfter_18 : decode cX8_errorAfter 18 = .ok (.iload_n 2, 1) := by decide +kernel
theorem dX8_errorAfter_19 : decode cX8_errorAfter 19 = .ok (.sipush 200, 3) := by decide +kernel
theorem dX8_errorAfter_22 : decode cX8_errorAfter 22 = .ok (.if_icmp .le 7, 3) := by decide +kernel
theorem dX8_errorAfter_25 : decode cX8_errorAfter 25 = .ok (.ldc_w 280, 3) := by decide +kernel
theorem dX8_errorAfter_28 : decode cX8_errorAfter 28 = .ok (.ireturn, 1) := by decide +kernel
theorem dX8_errorAfter_29 : decode cX8_errorAfter 29 = .ok (.aload_n 0, 1) := by decide +kernel
theorem dX8_errorAfter_30 : decode cX8_errorAfter 30 = .ok (.invokevirtual 166, 3) := by decide +kernel
theorem dX8_errorAfter_33 : decode cX8_errorAfter 33 = .ok (.iconst 1, 1) := by decide +kernel
theorem dX8_errorAfter_34 : decode cX8_errorAfter 34 = .ok (.istore_n 3, 1) := by decide +kernel
theorem dX8_errorAfter_35 : decode cX8_errorAfter 35 = .ok (.iload_n 3, 1) := by decide +kernel
theorem dX8_errorAfter_36 : decode cX8_errorAfter 36 = .ok (.iload_n 2, 1) := by decide +kernel
theorem dX8_errorAfter_37 : decode cX8_errorAfter 37 = .ok (.if_icmp .gt 22, 3) := by decide +kernel
theorem dX8_errorAfter_40 : decode cX8_errorAfter 40 = .ok (.aload_n 0, 1) := by decide +kernel
theorem dX8_errorAfter_41 : decode cX8_errorAfter 41 = .ok (.iload_n 1, 1) := by decide +kernel
theorem dX8_errorAfter_42 : decode cX8_errorAfter 42 = .ok (.aload_n 0, 1) := by decide +kernel
theorem dX8_errorAfter_43 : decode cX8_errorAfter 43 = .ok (.getfield 19, 3) := by decide +kernel
theorem dX8_errorAfter_46 : decode cX8_errorAfter 46 = .ok (.iconst 0, 1) := by decide +kernel
theorem dX8_errorAfter_47 : decode cX8_errorAfter 47 = .ok (.iaload, 1) := by decide +kernel
theorem dX8_errorAfter_48 : decode cX8_errorAfter 48 = .ok (.iload_n 3, 1) := by decide +kernel
theorem dX8_errorAfter_49 : decode cX8_errorAfter 49 = .ok (.iadd, 1) := by decide +kernel
theorem dX8_errorAfter_50 : decode cX8_errorAfter 50 = .ok (.invokevirtual 281, 3) := by decide +kernel
theorem dX8_errorAfter_53 : decode cX8_errorAfter 53 = .ok (.iinc 3 1, 3) := by decide +kernel
theorem dX8_errorAfter_56 : decode cX8_errorAfter 56 = .ok (.goto (-21), 3) := by decide +kernel
theorem dX8_errorAfter_59 : decode cX8_errorAfter 59 = .ok (.aload_n 0, 1) := by decide +kernel
theorem dX8_errorAfter_60 : decode cX8_errorAfter 60 = .ok (.getfield 19, 3) := by decide +kernel
theorem dX8_errorAfter_63 : decode cX8_errorAfter 63 = .ok (.aload_n 0, 1) := by decide +kernel
theorem dX8_errorAfter_64 : decode cX8_errorAfter 64 = .ok (.iload_n 1, 1) := by decide +kernel
theorem dX8_errorAfter_65 : decode cX8_errorAfter 65 = .ok (.aload_n 0, 1) := by decide +kernel
theorem dX8_errorAfter_66 : decode cX8_errorAfter 66 = .ok (.getfield 19, 3) := by decide +kernel
theorem dX8_errorAfter_69 : decode cX8_errorAfter 69 = .ok (.iconst 0, 1) := by decide +kernel
theorem dX8_errorAfter_70 : decode cX8_errorAfter 70 = .ok (.iaload, 1) := by decide +kernel
theorem dX8_errorAfter_71 : decode cX8_errorAfter 71 = .ok (.iload_n 2, 1) := by decide +kernel
theorem dX8_errorAfter_72 : decode cX8_errorAfter 72 = .ok (.iadd, 1) := by decide +kernel
theorem dX8_errorAfter_73 : decode cX8_errorAfter 73 = .ok (.invokevirtual 191, 3) := by decide +kernel
theorem dX8_errorAfter_76 : decode cX8_errorAfter 76 = .ok (.iaload, 1) := by decide +kernel
theorem dX8_errorAfter_77 : decode cX8_errorAfter 77 = .ok (.istore_n 3, 1) := by decide +kernel
theorem dX8_errorAfter_78 : decode cX8_errorAfter 78 = .ok (.aload_n 0, 1) := by decide +kernel
theorem dX8_errorAfter_79 : decode cX8_errorAfter 79 = .ok (.invokevirtual 172, 3) := by decide +kernel
theorem dX8_errorAfter_82 : decode cX8_errorAfter 82 = .ok (.iload_n 3, 1) := by decide +kernel
theorem dX8_errorAfter_83 : decode cX8_errorAfter 83 = .ok (.ireturn, 1) := by decide +kernel
theorem dX8_powerAfter_0 : decode cX8_powerAfter 0 = .ok (.aload_n 0, 1) := by decide +kernel
theorem dX8_powerAfter_1 : decode cX8_powerAfter 1 = .ok (.aload_n 0, 1) := by decide +kernel
theorem dX8_powerAfter_2 : decode cX8_powerAfter 2 = .ok (.iload_n 1, 1) := by decide +kernel
theorem dX8_powerAfter_3 : decode cX8_powerAfter 3 = .ok (.invokevirtual 178, 3) := by decide +kernel
theorem dX8_powerAfter_6 : decode cX8_powerAfter 6 = .ok (.invokevirtual 181, 3) := by decide +kernel
theorem dX8_powerAfter_9 : decode cX8_powerAfter 9 = .ok (.ifCond .ne 5, 3) := by decide +kernel
theorem dX8_powerAfter_12 : decode cX8_powerAfter 12 = .ok (.iconst 0, 1) := by decide +kernel
theorem dX8_powerAfter_13 : decode cX8_powerAfter 13 = .ok (.ireturn, 1) := by decide +kernel
theorem dX8_powerAfter_14 : decode cX8_powerAfter 14 = .ok (.iload_n 2, 1) := by decide +kernel
theorem dX8_powerAfter_15 : decode cX8_powerAfter 15 = .ok (.ifCond .lt 10, 3) := by decide +kernel
theorem dX8_powerAfter_18 : decode cX8_powerAfter 18 = .ok (.iload_n 2, 1) := by decide +kernel
theorem dX8_powerAfter_19 : decode cX8_powerAfter 19 = .ok (.sipush 200, 3) := by decide +kernel
theorem dX8_powerAfter_22 : decode cX8_powerAfter 22 = .ok (.if_icmp .le 6, 3) := by decide +kernel
theorem dX8_powerAfter_25 : decode cX8_powerAfter 25 = .ok (.bipush (-2), 2) := by decide +kernel
theorem dX8_powerAfter_27 : decode cX8_powerAfter 27 = .ok (.ireturn, 1) := by decide +kernel
theorem dX8_powerAfter_28 : decode cX8_powerAfter 28 = .ok (.aload_n 0, 1) := by decide +kernel
theorem dX8_powerAfter_29 : decode cX8_powerAfter 29 = .ok (.getfield 19, 3) := by decide +kernel
theorem dX8_powerAfter_32 : decode cX8_powerAfter 32 = .ok (.iconst 0, 1) := by decide +kernel
theorem dX8_powerAfter_33 : decode cX8_powerAfter 33 = .ok (.iaload, 1) := by decide +kernel
theorem dX8_powerAfter_34 : decode cX8_powerAfter 34 = .ok (.iload_n 2, 1) := by decide +kernel
theorem dX8_powerAfter_35 : decode cX8_powerAfter 35 = .ok (.iadd, 1) := by decide +kernel
theorem dX8_powerAfter_36 : decode cX8_powerAfter 36 = .ok (.sipush 9999, 3) := by decide +kernel
theorem dX8_powerAfter_39 : decode cX8_powerAfter 39 = .ok (.if_icmp .le 5, 3) := by decide +kernel
theorem dX8_powerAfter_42 : decode cX8_powerAfter 42 = .ok (.iconst (-1), 1) := by decide +kernel
theorem dX8_powerAfter_43 : decode cX8_powerAfter 43 = .ok (.ireturn, 1) := by decide +kernel
theorem dX8_powerAfter_44 : decode cX8_powerAfter 44 = .ok (.aload_n 0, 1) := by decide +kernel
theorem dX8_powerAfter_45 : decode cX8_powerAfter 45 = .ok (.getfield 19, 3) := by decide +kernel
theorem dX8_powerAfter_48 : decode cX8_powerAfter 48 = .ok (.bipush 8, 2) := by decide +kernel
theorem dX8_powerAfter_50 : decode cX8_powerAfter 50 = .ok (.iload_n 1, 1) := by decide +kernel
theorem dX8_powerAfter_51 : decode cX8_powerAfter 51 = .ok (.iadd, 1) := by decide +kernel
theorem dX8_powerAfter_52 : decode cX8_powerAfter 52 = .ok (.iaload, 1) := by decide +kernel
theorem dX8_powerAfter_53 : decode cX8_powerAfter 53 = .ok (.istore_n 3, 1) := by decide +kernel
theorem dX8_powerAfter_54 : decode cX8_powerAfter 54 = .ok (.iconst 1, 1) := by decide +kernel
theorem dX8_powerAfter_55 : decode cX8_powerAfter 55 = .ok (.istore 4, 2) := by decide +kernel
theorem dX8_powerAfter_57 : decode cX8_powerAfter 57 = .ok (.iload 4, 2) := by decide +kernel
theorem dX8_powerAfter_59 : decode cX8_powerAfter 59 = .ok (.iload_n 2, 1) := by decide +kernel
theorem dX8_powerAfter_60 : decode cX8_powerAfter 60 = .ok (.if_icmp .gt 25, 3) := by decide +kernel
theorem dX8_powerAfter_63 : decode cX8_powerAfter 63 = .ok (.aload_n 0, 1) := by decide +kernel
theorem dX8_powerAfter_64 : decode cX8_powerAfter 64 = .ok (.iload_n 1, 1) := by decide +kernel
theorem dX8_powerAfter_65 : decode cX8_powerAfter 65 = .ok (.iload_n 3, 1) := by decide +kernel
theorem dX8_powerAfter_66 : decode cX8_powerAfter 66 = .ok (.aload_n 0, 1) := by decide +kernel
theorem dX8_powerAfter_67 : decode cX8_powerAfter 67 = .ok (.getfield 19, 3) := by decide +kernel
theorem dX8_powerAfter_70 : decode cX8_powerAfter 70 = .ok (.iconst 0, 1) := by decide +kernel
theorem dX8_powerAfter_71 : decode cX8_powerAfter 71 = .ok (.iaload, 1) := by decide +kernel
theorem dX8_powerAfter_72 : decode cX8_powerAfter 72 = .ok (.iload 4, 2) := by decide +kernel
theorem dX8_powerAfter_74 : decode cX8_powerAfter 74 = .ok (.iadd, 1) := by decide +kernel
theorem dX8_powerAfter_75 : decode cX8_powerAfter 75 = .ok (.invokevirtual 284, 3) := by decide +kernel
theorem dX8_powerAfter_78 : decode cX8_powerAfter 78 = .ok (.istore_n 3, 1) := by decide +kernel
theorem dX8_powerAfter_79 : decode cX8_powerAfter 79 = .ok (.iinc 4 1, 3) := by decide +kernel
theorem dX8_powerAfter_82 : decode cX8_powerAfter 82 = .ok (.goto (-25), 3) := by decide +kernel
theorem dX8_powerAfter_85 : decode cX8_powerAfter 85 = .ok (.iload_n 3, 1) := by decide +kernel
theorem dX8_powerAfter_86 : decode cX8_powerAfter 86 = .ok (.ireturn, 1) := by decide +kernel
theorem dX8_framesInTime_0 : decode cX8_framesInTime 0 = .ok (.aload_n 0, 1) := by decide +kernel
theorem dX8_framesInTime_1 : decode cX8_framesInTime 1 = .ok (.aload_n 0, 1) := by decide +kernel
theorem dX8_framesInTime_2 : decode cX8_framesInTime 2 = .ok (.iload_n 1, 1) := by decide +kernel
theorem dX8_framesInTime_3 : decode cX8_framesInTime 3 = .ok (.invokevirtual 178, 3) := by decide +kernel
theorem dX8_framesInTime_6 : decode cX8_framesInTime 6 = .ok (.invokevirtual 181, 3) := by decide +kernel
theorem dX8_framesInTime_9 : decode cX8_framesInTime 9 = .ok (.ifCond .ne 5, 3) := by decide +kernel
theorem dX8_framesInTime_12 : decode cX8_framesInTime 12 = .ok (.iconst 0, 1) := by decide +kernel
theorem dX8_framesInTime_13 : decode cX8_framesInTime 13 = .ok (.ireturn, 1) := by decide +kernel
theorem dX8_framesInTime_14 : decode cX8_framesInTime 14 = .ok (.iconst 0, 1) := by decide +kernel
theorem dX8_framesInTime_15 : decode cX8_framesInTime 15 = .ok (.istore_n 2, 1) := by decide +kernel
theorem dX8_framesInTime_16 : decode cX8_framesInTime 16 = .ok (.iload_n 2, 1) := by decide +kernel
theorem dX8_framesInTime_17 : decode cX8_framesInTime 17 = .ok (.sipush 200, 3) := by decide +kernel
theorem dX8_framesInTime_20 : decode cX8_framesInTime 20 = .ok (.if_icmp .gt 31, 3) := by decide +kernel
theorem dX8_framesInTime_23 : decode cX8_framesInTime 23 = .ok (.aload_n 0, 1) := by decide +kernel
theorem dX8_framesInTime_24 : decode cX8_framesInTime 24 = .ok (.iload_n 1, 1) := by decide +kernel
theorem dX8_framesInTime_25 : decode cX8_framesInTime 25 = .ok (.iload_n 2, 1) := by decide +kernel
theorem dX8_framesInTime_26 : decode cX8_framesInTime 26 = .ok (.invokevirtual 287, 3) := by decide +kernel
theorem dX8_framesInTime_29 : decode cX8_framesInTime 29 = .ok (.invokestatic 290, 3) := by decide +kernel
theorem dX8_framesInTime_32 : decode cX8_framesInTime 32 = .ok (.iconst 2, 1) := by decide +kernel
theorem dX8_framesInTime_33 : decode cX8_framesInTime 33 = .ok (.imul, 1) := by decide +kernel
theorem dX8_framesInTime_34 : decode cX8_framesInTime 34 = .ok (.aload_n 0, 1) := by decide +kernel
theorem dX8_framesInTime_35 : decode cX8_framesInTime 35 = .ok (.getfield 19, 3) := by decide +kernel
theorem dX8_framesInTime_38 : decode cX8_framesInTime 38 = .ok (.iconst 2, 1) := by decide +kernel
theorem dX8_framesInTime_39 : decode cX8_framesInTime 39 = .ok (.iaload, 1) := by decide +kernel
theorem dX8_framesInTime_40 : decode cX8_framesInTime 40 = .ok (.if_icmp .le 5, 3) := by decide +kernel
theorem dX8_framesInTime_43 : decode cX8_framesInTime 43 = .ok (.iload_n 2, 1) := by decide +kernel
theorem dX8_framesInTime_44 : decode cX8_framesInTime 44 = .ok (.ireturn, 1) := by decide +kernel
theorem dX8_framesInTime_45 : decode cX8_framesInTime 45 = .ok (.iinc 2 1, 3) := by decide +kernel
theorem dX8_framesInTime_48 : decode cX8_framesInTime 48 = .ok (.goto (-32), 3) := by decide +kernel
theorem dX8_framesInTime_51 : decode cX8_framesInTime 51 = .ok (.iconst (-1), 1) := by decide +kernel
theorem dX8_framesInTime_52 : decode cX8_framesInTime 52 = .ok (.ireturn, 1) := by decide +kernel
theorem dX8_framesToWait_0 : decode cX8_framesToWait 0 = .ok (.aload_n 0, 1) := by decide +kernel
theorem dX8_framesToWait_1 : decode cX8_framesToWait 1 = .ok (.aload_n 0, 1) := by decide +kernel
theorem dX8_framesToWait_2 : decode cX8_framesToWait 2 = .ok (.iload_n 1, 1) := by decide +kernel
theorem dX8_framesToWait_3 : decode cX8_framesToWait 3 = .ok (.invokevirtual 197, 3) := by decide +kernel
theorem dX8_framesToWait_6 : decode cX8_framesToWait 6 = .ok (.invokevirtual 181, 3) := by decide +kernel
theorem dX8_framesToWait_9 : decode cX8_framesToWait 9 = .ok (.ifCond .ne 5, 3) := by decide +kernel
theorem dX8_framesToWait_12 : decode cX8_framesToWait 12 = .ok (.iconst 0, 1) := by decide +kernel
theorem dX8_framesToWait_13 : decode cX8_framesToWait 13 = .ok (.ireturn, 1) := by decide +kernel
theorem dX8_framesToWait_14 : decode cX8_framesToWait 14 = .ok (.aload_n 0, 1) := by decide +kernel
theorem dX8_framesToWait_15 : decode cX8_framesToWait 15 = .ok (.iload_n 1, 1) := by decide +kernel
theorem dX8_framesToWait_16 : decode cX8_framesToWait 16 = .ok (.iconst 5, 1) := by decide +kernel
theorem dX8_framesToWait_17 : decode cX8_framesToWait 17 = .ok (.invokevirtual 200, 3) := by decide +kernel
theorem dX8_framesToWait_20 : decode cX8_framesToWait 20 = .ok (.ifCond .eq 5, 3) := by decide +kernel
theorem dX8_framesToWait_23 : decode cX8_framesToWait 23 = .ok (.iconst (-1), 1) := by decide +kernel
theorem dX8_framesToWait_24 : decode cX8_framesToWait 24 = .ok (.ireturn, 1) := by decide +kernel
theorem dX8_framesToWait_25 : decode cX8_framesToWait 25 = .ok (.aload_n 0, 1) := by decide +kernel
theorem dX8_framesToWait_26 : decode cX8_framesToWait 26 = .ok (.invokevirtual 166, 3) := by decide +kernel
theorem dX8_framesToWait_29 : decode cX8_framesToWait 29 = .ok (.iconst 0, 1) := by decide +kernel
theorem dX8_framesToWait_30 : decode cX8_framesToWait 30 = .ok (.istore_n 2, 1) := by decide +kernel
theorem dX8_framesToWait_31 : decode cX8_framesToWait 31 = .ok (.iload_n 2, 1) := by decide +kernel
theorem dX8_framesToWait_32 : decode cX8_framesToWait 32 = .ok (.sipush 200, 3) := by decide +kernel
theorem dX8_framesToWait_35 : decode cX8_framesToWait 35 = .ok (.if_icmp .ge 33, 3) := by decide +kernel
theorem dX8_framesToWait_38 : decode cX8_framesToWait 38 = .ok (.aload_n 0, 1) := by decide +kernel
theorem dX8_framesToWait_39 : decode cX8_framesToWait 39 = .ok (.getfield 19, 3) := by decide +kernel
theorem dX8_framesToWait_42 : decode cX8_framesToWait 42 = .ok (.iconst 0, 1) := by decide +kernel
theorem dX8_framesToWait_43 : decode cX8_framesToWait 43 = .ok (.iaload, 1) := by decide +kernel
theorem dX8_framesToWait_44 : decode cX8_framesToWait 44 = .ok (.sipush 9999, 3) := by decide +kernel
theorem dX8_framesToWait_47 : decode cX8_framesToWait 47 = .ok (.if_icmp .ge 21, 3) := by decide +kernel
theorem dX8_framesToWait_50 : decode cX8_framesToWait 50 = .ok (.aload_n 0, 1) := by decide +kernel
theorem dX8_framesToWait_51 : decode cX8_framesToWait 51 = .ok (.iload_n 1, 1) := by decide +kernel
theorem dX8_framesToWait_52 : decode cX8_framesToWait 52 = .ok (.invokevirtual 203, 3) := by decide +kernel
theorem dX8_framesToWait_55 : decode cX8_framesToWait 55 = .ok (.ifCond .ne 13, 3) := by decide +kernel
theorem dX8_framesToWait_58 : decode cX8_framesToWait 58 = .ok (.aload_n 0, 1) := by decide +kernel
theorem dX8_framesToWait_59 : decode cX8_framesToWait 59 = .ok (.invokevirtual 293, 3) := by decide +kernel
theorem dX8_framesToWait_62 : decode cX8_framesToWait 62 = .ok (.iinc 2 1, 3) := by decide +kernel
theorem dX8_framesToWait_65 : decode cX8_framesToWait 65 = .ok (.goto (-34), 3) := by decide +kernel
theorem dX8_framesToWait_68 : decode cX8_framesToWait 68 = .ok (.aload_n 0, 1) := by decide +kernel
theorem dX8_framesToWait_69 : decode cX8_framesToWait 69 = .ok (.iload_n 1, 1) := by decide +kernel
theorem dX8_framesToWait_70 : decode cX8_framesToWait 70 = .ok (.invokevirtual 203, 3) := by decide +kernel
theorem dX8_framesToWait_73 : decode cX8_framesToWait 73 = .ok (.istore_n 3, 1) := by decide +kernel
theorem dX8_framesToWait_74 : decode cX8_framesToWait 74 = .ok (.aload_n 0, 1) := by decide +kernel
theorem dX8_framesToWait_75 : decode cX8_framesToWait 75 = .ok (.invokevirtual 172, 3) := by decide +kernel
theorem dX8_framesToWait_78 : decode cX8_framesToWait 78 = .ok (.iload_n 3, 1) := by decide +kernel
theorem dX8_framesToWait_79 : decode cX8_framesToWait 79 = .ok (.ifCond .eq 7, 3) := by decide +kernel
theorem dX8_framesToWait_82 : decode cX8_framesToWait 82 = .ok (.iload_n 2, 1) := by decide +kernel
theorem dX8_framesToWait_83 : decode cX8_framesToWait 83 = .ok (.goto 4, 3) := by decide +kernel
theorem dX8_framesToWait_86 : decode cX8_framesToWait 86 = .ok (.iconst (-1), 1) := by decide +kernel
theorem dX8_framesToWait_87 : decode cX8_framesToWait 87 = .ok (.ireturn, 1) := by decide +kernel
theorem dX8_clearFrame_0 : decode cX8_clearFrame 0 = .ok (.aload_n 0, 1) := by decide +kernel
theorem dX8_clearFrame_1 : decode cX8_clearFrame 1 = .ok (.aload_n 0, 1) := by decide +kernel
theorem dX8_clearFrame_2 : decode cX8_clearFrame 2 = .ok (.iload_n 1, 1) := by decide +kernel
theorem dX8_clearFrame_3 : decode cX8_clearFrame 3 = .ok (.invokevirtual 197, 3) := by decide +kernel
theorem dX8_clearFrame_6 : decode cX8_clearFrame 6 = .ok (.invokevirtual 181, 3) := by decide +kernel
theorem dX8_clearFrame_9 : decode cX8_clearFrame 9 = .ok (.ifCond .ne 5, 3) := by decide +kernel
theorem dX8_clearFrame_12 : decode cX8_clearFrame 12 = .ok (.iconst 0, 1) := by decide +kernel
theorem dX8_clearFrame_13 : decode cX8_clearFrame 13 = .ok (.ireturn, 1) := by decide +kernel
theorem dX8_clearFrame_14 : decode cX8_clearFrame 14 = .ok (.aload_n 0, 1) := by decide +kernel
theorem dX8_clearFrame_15 : decode cX8_clearFrame 15 = .ok (.iload_n 1, 1) := by decide +kernel
theorem dX8_clearFrame_16 : decode cX8_clearFrame 16 = .ok (.iconst 0, 1) := by decide +kernel
theorem dX8_clearFrame_17 : decode cX8_clearFrame 17 = .ok (.invokevirtual 200, 3) := by decide +kernel
theorem dX8_clearFrame_20 : decode cX8_clearFrame 20 = .ok (.istore_n 2, 1) := by decide +kernel
theorem dX8_clearFrame_21 : decode cX8_clearFrame 21 = .ok (.aload_n 0, 1) := by decide +kernel
theorem dX8_clearFrame_22 : decode cX8_clearFrame 22 = .ok (.getfield 19, 3) := by decide +kernel
theorem dX8_clearFrame_25 : decode cX8_clearFrame 25 = .ok (.bipush 8, 2) := by decide +kernel
theorem dX8_clearFrame_27 : decode cX8_clearFrame 27 = .ok (.iload_n 2, 1) := by decide +kernel
theorem dX8_clearFrame_28 : decode cX8_clearFrame 28 = .ok (.iadd, 1) := by decide +kernel
theorem dX8_clearFrame_29 : decode cX8_clearFrame 29 = .ok (.iaload, 1) := by decide +kernel
theorem dX8_clearFrame_30 : decode cX8_clearFrame 30 = .ok (.istore_n 3, 1) := by decide +kernel
theorem dX8_clearFrame_31 : decode cX8_clearFrame 31 = .ok (.aload_n 0, 1) := by decide +kernel
theorem dX8_clearFrame_32 : decode cX8_clearFrame 32 = .ok (.getfield 19, 3) := by decide +kernel
theorem dX8_clearFrame_35 : decode cX8_clearFrame 35 = .ok (.iconst 0, 1) := by decide +kernel
theorem dX8_clearFrame_36 : decode cX8_clearFrame 36 = .ok (.iaload, 1) := by decide +kernel
theorem dX8_clearFrame_37 : decode cX8_clearFrame 37 = .ok (.istore 4, 2) := by decide +kernel
theorem dX8_clearFrame_39 : decode cX8_clearFrame 39 = .ok (.iload 4, 2) := by decide +kernel
theorem dX8_clearFrame_41 : decode cX8_clearFrame 41 = .ok (.sipush 9999, 3) := by decide +kernel
theorem dX8_clearFrame_44 : decode cX8_clearFrame 44 = .ok (.if_icmp .gt 62, 3) := by decide +kernel
theorem dX8_clearFrame_47 : decode cX8_clearFrame 47 = .ok (.iload 4, 2) := by decide +kernel
theorem dX8_clearFrame_49 : decode cX8_clearFrame 49 = .ok (.aload_n 0, 1) := by decide +kernel
theorem dX8_clearFrame_50 : decode cX8_clearFrame 50 = .ok (.getfield 19, 3) := by decide +kernel
theorem dX8_clearFrame_53 : decode cX8_clearFrame 53 = .ok (.iconst 0, 1) := by decide +kernel
theorem dX8_clearFrame_54 : decode cX8_clearFrame 54 = .ok (.iaload, 1) := by decide +kernel
theorem dX8_clearFrame_55 : decode cX8_clearFrame 55 = .ok (.sipush 200, 3) := by decide +kernel
theorem dX8_clearFrame_58 : decode cX8_clearFrame 58 = .ok (.iadd, 1) := by decide +kernel
theorem dX8_clearFrame_59 : decode cX8_clearFrame 59 = .ok (.if_icmp .gt 47, 3) := by decide +kernel
theorem dX8_clearFrame_62 : decode cX8_clearFrame 62 = .ok (.iload 4, 2) := by decide +kernel
theorem dX8_clearFrame_64 : decode cX8_clearFrame 64 = .ok (.aload_n 0, 1) := by decide +kernel
theorem dX8_clearFrame_65 : decode cX8_clearFrame 65 = .ok (.getfield 19, 3) := by decide +kernel
theorem dX8_clearFrame_68 : decode cX8_clearFrame 68 = .ok (.iconst 0, 1) := by decide +kernel
theorem dX8_clearFrame_69 : decode cX8_clearFrame 69 = .ok (.iaload, 1) := by decide +kernel
theorem dX8_clearFrame_70 : decode cX8_clearFrame 70 = .ok (.if_icmp .ne 7, 3) := by decide +kernel
theorem dX8_clearFrame_73 : decode cX8_clearFrame 73 = .ok (.iload_n 3, 1) := by decide +kernel
theorem dX8_clearFrame_74 : decode cX8_clearFrame 74 = .ok (.goto 11, 3) := by decide +kernel
theorem dX8_clearFrame_77 : decode cX8_clearFrame 77 = .ok (.aload_n 0, 1) := by decide +kernel
theorem dX8_clearFrame_78 : decode cX8_clearFrame 78 = .ok (.iload_n 2, 1) := by decide +kernel
theorem dX8_clearFrame_79 : decode cX8_clearFrame 79 = .ok (.iload_n 3, 1) := by decide +kernel
theorem dX8_clearFrame_80 : decode cX8_clearFrame 80 = .ok (.iload 4, 2) := by decide +kernel
theorem dX8_clearFrame_82 : decode cX8_clearFrame 82 = .ok (.invokevirtual 284, 3) := by decide +kernel
theorem dX8_clearFrame_85 : decode cX8_clearFrame 85 = .ok (.istore_n 3, 1) := by decide +kernel
theorem dX8_clearFrame_86 : decode cX8_clearFrame 86 = .ok (.aload_n 0, 1) := by decide +kernel
theorem dX8_clearFrame_87 : decode cX8_clearFrame 87 = .ok (.iload_n 1, 1) := by decide +kernel
theorem dX8_clearFrame_88 : decode cX8_clearFrame 88 = .ok (.iload_n 3, 1) := by decide +kernel
theorem dX8_clearFrame_89 : decode cX8_clearFrame 89 = .ok (.iload 4, 2) := by decide +kernel
theorem dX8_clearFrame_91 : decode cX8_clearFrame 91 = .ok (.invokevirtual 212, 3) := by decide +kernel
theorem dX8_clearFrame_94 : decode cX8_clearFrame 94 = .ok (.ifCond .lt 6, 3) := by decide +kernel
theorem dX8_clearFrame_97 : decode cX8_clearFrame 97 = .ok (.iload 4, 2) := by decide +kernel
theorem dX8_clearFrame_99 : decode cX8_clearFrame 99 = .ok (.ireturn, 1) := by decide +kernel
theorem dX8_clearFrame_100 : decode cX8_clearFrame 100 = .ok (.iinc 4 1, 3) := by decide +kernel
theorem dX8_clearFrame_103 : decode cX8_clearFrame 103 = .ok (.goto (-64), 3) := by decide +kernel
theorem dX8_clearFrame_106 : decode cX8_clearFrame 106 = .ok (.iconst (-1), 1) := by decide +kernel
theorem dX8_clearFrame_107 : decode cX8_clearFrame 107 = .ok (.ireturn, 1) := by decide +kernel
theorem dX8_keeps_0 : decode cX8_keeps 0 = .ok (.aload_n 0, 1) := by decide +kernel
theorem dX8_keeps_1 : decode cX8_keeps 1 = .ok (.getfield 175, 3) := by decide +kernel
theorem dX8_keeps_4 : decode cX8_keeps 4 = .ok (.bipush 10, 2) := by decide +kernel
theorem dX8_keeps_6 : decode cX8_keeps 6 = .ok (.if_icmp .ne 46, 3) := by decide +kernel
theorem dX8_keeps_9 : decode cX8_keeps 9 = .ok (.sipush 597, 3) := by decide +kernel
theorem dX8_keeps_12 : decode cX8_keeps 12 = .ok (.istore_n 1, 1) := by decide +kernel
theorem dX8_keeps_13 : decode cX8_keeps 13 = .ok (.iload_n 1, 1) := by decide +kernel
theorem dX8_keeps_14 : decode cX8_keeps 14 = .ok (.sipush 5970, 3) := by decide +kernel
theorem dX8_keeps_17 : decode cX8_keeps 17 = .ok (.if_icmp .ge 25, 3) := by decide +kernel
theorem dX8_keeps_20 : decode cX8_keeps 20 = .ok (.aload_n 0, 1) := by decide +kernel
theorem dX8_keeps_21 : decode cX8_keeps 21 = .ok (.getfield 25, 3) := by decide +kernel
theorem dX8_keeps_24 : decode cX8_keeps 24 = .ok (.iload_n 1, 1) := by decide +kernel
theorem dX8_keeps_25 : decode cX8_keeps 25 = .ok (.sipush 597, 3) := by decide +kernel
theorem dX8_keeps_28 : decode cX8_keeps 28 = .ok (.isub, 1) := by decide +kernel
theorem dX8_keeps_29 : decode cX8_keeps 29 = .ok (.aload_n 0, 1) := by decide +kernel
theorem dX8_keeps_30 : decode cX8_keeps 30 = .ok (.getfield 25, 3) := by decide +kernel
theorem dX8_keeps_33 : decode cX8_keeps 33 = .ok (.iload_n 1, 1) := by decide +kernel
theorem dX8_keeps_34 : decode cX8_keeps 34 = .ok (.iaload, 1) := by decide +kernel
theorem dX8_keeps_35 : decode cX8_keeps 35 = .ok (.iastore, 1) := by decide +kernel
theorem dX8_keeps_36 : decode cX8_keeps 36 = .ok (.iinc 1 1, 3) := by decide +kernel
theorem dX8_keeps_39 : decode cX8_keeps 39 = .ok (.goto (-26), 3) := by decide +kernel
theorem dX8_keeps_42 : decode cX8_keeps 42 = .ok (.aload_n 0, 1) := by decide +kernel
theorem dX8_keeps_43 : decode cX8_keeps 43 = .ok (.dup, 1) := by decide +kernel
theorem dX8_keeps_44 : decode cX8_keeps 44 = .ok (.getfield 175, 3) := by decide +kernel
theorem dX8_keeps_47 : decode cX8_keeps 47 = .ok (.iconst 1, 1) := by decide +kernel
theorem dX8_keeps_48 : decode cX8_keeps 48 = .ok (.isub, 1) := by decide +kernel
theorem dX8_keeps_49 : decode cX8_keeps 49 = .ok (.putfield 175, 3) := by decide +kernel
theorem dX8_keeps_52 : decode cX8_keeps 52 = .ok (.iconst 0, 1) := by decide +kernel
theorem dX8_keeps_53 : decode cX8_keeps 53 = .ok (.istore_n 1, 1) := by decide +kernel
theorem dX8_keeps_54 : decode cX8_keeps 54 = .ok (.iload_n 1, 1) := by decide +kernel
theorem dX8_keeps_55 : decode cX8_keeps 55 = .ok (.sipush 597, 3) := by decide +kernel
theorem dX8_keeps_58 : decode cX8_keeps 58 = .ok (.if_icmp .ge 30, 3) := by decide +kernel
theorem dX8_keeps_61 : decode cX8_keeps 61 = .ok (.aload_n 0, 1) := by decide +kernel
theorem dX8_keeps_62 : decode cX8_keeps 62 = .ok (.getfield 25, 3) := by decide +kernel
theorem dX8_keeps_65 : decode cX8_keeps 65 = .ok (.sipush 597, 3) := by decide +kernel
theorem dX8_keeps_68 : decode cX8_keeps 68 = .ok (.aload_n 0, 1) := by decide +kernel
theorem dX8_keeps_69 : decode cX8_keeps 69 = .ok (.getfield 175, 3) := by decide +kernel
theorem dX8_keeps_72 : decode cX8_keeps 72 = .ok (.imul, 1) := by decide +kernel
theorem dX8_keeps_73 : decode cX8_keeps 73 = .ok (.iload_n 1, 1) := by decide +kernel
theorem dX8_keeps_74 : decode cX8_keeps 74 = .ok (.iadd, 1) := by decide +kernel
theorem dX8_keeps_75 : decode cX8_keeps 75 = .ok (.aload_n 0, 1) := by decide +kernel
theorem dX8_keeps_76 : decode cX8_keeps 76 = .ok (.getfield 19, 3) := by decide +kernel
theorem dX8_keeps_79 : decode cX8_keeps 79 = .ok (.iload_n 1, 1) := by decide +kernel
theorem dX8_keeps_80 : decode cX8_keeps 80 = .ok (.iaload, 1) := by decide +kernel
theorem dX8_keeps_81 : decode cX8_keeps 81 = .ok (.iastore, 1) := by decide +kernel
theorem dX8_keeps_82 : decode cX8_keeps 82 = .ok (.iinc 1 1, 3) := by decide +kernel
theorem dX8_keeps_85 : decode cX8_keeps 85 = .ok (.goto (-31), 3) := by decide +kernel
theorem dX8_keeps_88 : decode cX8_keeps 88 = .ok (.aload_n 0, 1) := by decide +kernel
theorem dX8_keeps_89 : decode cX8_keeps 89 = .ok (.dup, 1) := by decide +kernel
theorem dX8_keeps_90 : decode cX8_keeps 90 = .ok (.getfield 175, 3) := by decide +kernel
theorem dX8_keeps_93 : decode cX8_keeps 93 = .ok (.iconst 1, 1) := by decide +kernel
theorem dX8_keeps_94 : decode cX8_keeps 94 = .ok (.iadd, 1) := by decide +kernel
theorem dX8_keeps_95 : decode cX8_keeps 95 = .ok (.putfield 175, 3) := by decide +kernel
theorem dX8_keeps_98 : decode cX8_keeps 98 = .ok (.return_, 1) := by decide +kernel
theorem dX8_undo_0 : decode cX8_undo 0 = .ok (.aload_n 0, 1) := by decide +kernel
theorem dX8_undo_1 : decode cX8_undo 1 = .ok (.iconst 0, 1) := by decide +kernel
theorem dX8_undo_2 : decode cX8_undo 2 = .ok (.putfield 47, 3) := by decide +kernel
theorem dX8_undo_5 : decode cX8_undo 5 = .ok (.aload_n 0, 1) := by decide +kernel
theorem dX8_undo_6 : decode cX8_undo 6 = .ok (.getfield 175, 3) := by decide +kernel
theorem dX8_undo_9 : decode cX8_undo 9 = .ok (.ifCond .ne 5, 3) := by decide +kernel
theorem dX8_undo_12 : decode cX8_undo 12 = .ok (.iconst (-1), 1) := by decide +kernel
theorem dX8_undo_13 : decode cX8_undo 13 = .ok (.ireturn, 1) := by decide +kernel
theorem dX8_undo_14 : decode cX8_undo 14 = .ok (.aload_n 0, 1) := by decide +kernel
theorem dX8_undo_15 : decode cX8_undo 15 = .ok (.dup, 1) := by decide +kernel
theorem dX8_undo_16 : decode cX8_undo 16 = .ok (.getfield 175, 3) := by decide +kernel
theorem dX8_undo_19 : decode cX8_undo 19 = .ok (.iconst 1, 1) := by decide +kernel
theorem dX8_undo_20 : decode cX8_undo 20 = .ok (.isub, 1) := by decide +kernel
theorem dX8_undo_21 : decode cX8_undo 21 = .ok (.putfield 175, 3) := by decide +kernel
theorem dX8_undo_24 : decode cX8_undo 24 = .ok (.iconst 0, 1) := by decide +kernel
theorem dX8_undo_25 : decode cX8_undo 25 = .ok (.istore_n 1, 1) := by decide +kernel
theorem dX8_undo_26 : decode cX8_undo 26 = .ok (.iload_n 1, 1) := by decide +kernel
theorem dX8_undo_27 : decode cX8_undo 27 = .ok (.sipush 597, 3) := by decide +kernel
theorem dX8_undo_30 : decode cX8_undo 30 = .ok (.if_icmp .ge 30, 3) := by decide +kernel
theorem dX8_undo_33 : decode cX8_undo 33 = .ok (.aload_n 0, 1) := by decide +kernel
theorem dX8_undo_34 : decode cX8_undo 34 = .ok (.getfield 19, 3) := by decide +kernel
theorem dX8_undo_37 : decode cX8_undo 37 = .ok (.iload_n 1, 1) := by decide +kernel
theorem dX8_undo_38 : decode cX8_undo 38 = .ok (.aload_n 0, 1) := by decide +kernel
theorem dX8_undo_39 : decode cX8_undo 39 = .ok (.getfield 25, 3) := by decide +kernel
theorem dX8_undo_42 : decode cX8_undo 42 = .ok (.sipush 597, 3) := by decide +kernel
theorem dX8_undo_45 : decode cX8_undo 45 = .ok (.aload_n 0, 1) := by decide +kernel
theorem dX8_undo_46 : decode cX8_undo 46 = .ok (.getfield 175, 3) := by decide +kernel
theorem dX8_undo_49 : decode cX8_undo 49 = .ok (.imul, 1) := by decide +kernel
theorem dX8_undo_50 : decode cX8_undo 50 = .ok (.iload_n 1, 1) := by decide +kernel
theorem dX8_undo_51 : decode cX8_undo 51 = .ok (.iadd, 1) := by decide +kernel
theorem dX8_undo_52 : decode cX8_undo 52 = .ok (.iaload, 1) := by decide +kernel
theorem dX8_undo_53 : decode cX8_undo 53 = .ok (.iastore, 1) := by decide +kernel
theorem dX8_undo_54 : decode cX8_undo 54 = .ok (.iinc 1 1, 3) := by decide +kernel
theorem dX8_undo_57 : decode cX8_undo 57 = .ok (.goto (-31), 3) := by decide +kernel
theorem dX8_undo_60 : decode cX8_undo 60 = .ok (.aload_n 0, 1) := by decide +kernel
theorem dX8_undo_61 : decode cX8_undo 61 = .ok (.getfield 175, 3) := by decide +kernel
theorem dX8_undo_64 : decode cX8_undo 64 = .ok (.ireturn, 1) := by decide +kernel
theorem dX8_request_0 : decode cX8_request 0 = .ok (.aload_n 0, 1) := by decide +kernel
theorem dX8_request_1 : decode cX8_request 1 = .ok (.iconst 0, 1) := by decide +kernel
theorem dX8_request_2 : decode cX8_request 2 = .ok (.putfield 47, 3) := by decide +kernel
theorem dX8_request_5 : decode cX8_request 5 = .ok (.aload_n 0, 1) := by decide +kernel
theorem dX8_request_6 : decode cX8_request 6 = .ok (.iload_n 1, 1) := by decide +kernel
theorem dX8_request_7 : decode cX8_request 7 = .ok (.invokevirtual 178, 3) := by decide +kernel
theorem dX8_request_10 : decode cX8_request 10 = .ok (.ifCond .eq 16, 3) := by decide +kernel
theorem dX8_request_13 : decode cX8_request 13 = .ok (.aload_n 0, 1) := by decide +kernel
theorem dX8_request_14 : decode cX8_request 14 = .ok (.iload_n 2, 1) := by decide +kernel
theorem dX8_request_15 : decode cX8_request 15 = .ok (.invokevirtual 178, 3) := by decide +kernel
theorem dX8_request_18 : decode cX8_request 18 = .ok (.ifCond .eq 8, 3) := by decide +kernel
theorem dX8_request_21 : decode cX8_request 21 = .ok (.iload_n 1, 1) := by decide +kernel
theorem dX8_request_22 : decode cX8_request 22 = .ok (.iload_n 2, 1) := by decide +kernel
theorem dX8_request_23 : decode cX8_request 23 = .ok (.if_icmp .ne 5, 3) := by decide +kernel
theorem dX8_request_26 : decode cX8_request 26 = .ok (.iconst (-1), 1) := by decide +kernel
theorem dX8_request_27 : decode cX8_request 27 = .ok (.ireturn, 1) := by decide +kernel
theorem dX8_request_28 : decode cX8_request 28 = .ok (.iload_n 3, 1) := by decide +kernel
theorem dX8_request_29 : decode cX8_request 29 = .ok (.ifCond .lt 37, 3) := by decide +kernel
theorem dX8_request_32 : decode cX8_request 32 = .ok (.iload_n 3, 1) := by decide +kernel
theorem dX8_request_33 : decode cX8_request 33 = .ok (.bipush 9, 2) := by decide +kernel
theorem dX8_request_35 : decode cX8_request 35 = .ok (.if_icmp .gt 31, 3) := by decide +kernel
theorem dX8_request_38 : decode cX8_request 38 = .ok (.iload 4, 2) := by decide +kernel
theorem dX8_request_40 : decode cX8_request 40 = .ok (.iconst 1, 1) := by decide +kernel
theorem dX8_request_41 : decode cX8_request 41 = .ok (.if_icmp .lt 25, 3) := by decide +kernel
theorem dX8_request_44 : decode cX8_request 44 = .ok (.iload 4, 2) := by decide +kernel
theorem dX8_request_46 : decode cX8_request 46 = .ok (.sipush 2000, 3) := by decide +kernel
theorem dX8_request_49 : decode cX8_request 49 = .ok (.if_icmp .gt 17, 3) := by decide +kernel
theorem dX8_request_52 : decode cX8_request 52 = .ok (.iload 5, 2) := by decide +kernel
theorem dX8_request_54 : decode cX8_request 54 = .ok (.iconst 1, 1) := by decide +kernel
theorem dX8_request_55 : decode cX8_request 55 = .ok (.if_icmp .lt 11, 3) := by decide +kernel
theorem dX8_request_58 : decode cX8_request 58 = .ok (.iload 5, 2) := by decide +kernel
theorem dX8_request_60 : decode cX8_request 60 = .ok (.sipush 9999, 3) := by decide +kernel
theorem dX8_request_63 : decode cX8_request 63 = .ok (.if_icmp .le 6, 3) := by decide +kernel
theorem dX8_request_66 : decode cX8_request 66 = .ok (.bipush (-2), 2) := by decide +kernel
theorem dX8_request_68 : decode cX8_request 68 = .ok (.ireturn, 1) := by decide +kernel
theorem dX8_request_69 : decode cX8_request 69 = .ok (.aload_n 0, 1) := by decide +kernel
theorem dX8_request_70 : decode cX8_request 70 = .ok (.getfield 19, 3) := by decide +kernel
theorem dX8_request_73 : decode cX8_request 73 = .ok (.sipush 404, 3) := by decide +kernel
theorem dX8_request_76 : decode cX8_request 76 = .ok (.iaload, 1) := by decide +kernel
theorem dX8_request_77 : decode cX8_request 77 = .ok (.bipush 16, 2) := by decide +kernel
theorem dX8_request_79 : decode cX8_request 79 = .ok (.if_icmp .ne 6, 3) := by decide +kernel
theorem dX8_request_82 : decode cX8_request 82 = .ok (.bipush (-3), 2) := by decide +kernel
theorem dX8_request_84 : decode cX8_request 84 = .ok (.ireturn, 1) := by decide +kernel
theorem dX8_request_85 : decode cX8_request 85 = .ok (.aload_n 0, 1) := by decide +kernel
theorem dX8_request_86 : decode cX8_request 86 = .ok (.invokevirtual 296, 3) := by decide +kernel
theorem dX8_request_89 : decode cX8_request 89 = .ok (.aload_n 0, 1) := by decide +kernel
theorem dX8_request_90 : decode cX8_request 90 = .ok (.aload_n 0, 1) := by decide +kernel
theorem dX8_request_91 : decode cX8_request 91 = .ok (.getfield 13, 3) := by decide +kernel
theorem dX8_request_94 : decode cX8_request 94 = .ok (.bipush 64, 2) := by decide +kernel
theorem dX8_request_96 : decode cX8_request 96 = .ok (.iaload, 1) := by decide +kernel
theorem dX8_request_97 : decode cX8_request 97 = .ok (.putfield 138, 3) := by decide +kernel
theorem dX8_request_100 : decode cX8_request 100 = .ok (.aload_n 0, 1) := by decide +kernel
theorem dX8_request_101 : decode cX8_request 101 = .ok (.iload_n 1, 1) := by decide +kernel
theorem dX8_request_102 : decode cX8_request 102 = .ok (.iload_n 2, 1) := by decide +kernel
theorem dX8_request_103 : decode cX8_request 103 = .ok (.iload_n 3, 1) := by decide +kernel
theorem dX8_request_104 : decode cX8_request 104 = .ok (.iload 4, 2) := by decide +kernel
theorem dX8_request_106 : decode cX8_request 106 = .ok (.iload 5, 2) := by decide +kernel
theorem dX8_request_108 : decode cX8_request 108 = .ok (.invokevirtual 141, 3) := by decide +kernel
theorem dX8_request_111 : decode cX8_request 111 = .ok (.istore 6, 2) := by decide +kernel
theorem dX8_request_113 : decode cX8_request 113 = .ok (.aload_n 0, 1) := by decide +kernel
theorem dX8_request_114 : decode cX8_request 114 = .ok (.iload 6, 2) := by decide +kernel
theorem dX8_request_116 : decode cX8_request 116 = .ok (.invokevirtual 145, 3) := by decide +kernel
theorem dX8_request_119 : decode cX8_request 119 = .ok (.istore 7, 2) := by decide +kernel
theorem dX8_request_121 : decode cX8_request 121 = .ok (.iload 6, 2) := by decide +kernel
theorem dX8_request_123 : decode cX8_request 123 = .ok (.ireturn, 1) := by decide +kernel
theorem dX8_release_0 : decode cX8_release 0 = .ok (.aload_n 0, 1) := by decide +kernel
theorem dX8_release_1 : decode cX8_release 1 = .ok (.iconst 0, 1) := by decide +kernel
theorem dX8_release_2 : decode cX8_release 2 = .ok (.putfield 47, 3) := by decide +kernel
theorem dX8_release_5 : decode cX8_release 5 = .ok (.aload_n 0, 1) := by decide +kernel
theorem dX8_release_6 : decode cX8_release 6 = .ok (.iload_n 1, 1) := by decide +kernel
theorem dX8_release_7 : decode cX8_release 7 = .ok (.invokevirtual 197, 3) := by decide +kernel
theorem dX8_release_10 : decode cX8_release 10 = .ok (.ifCond .eq 13, 3) := by decide +kernel
theorem dX8_release_13 : decode cX8_release 13 = .ok (.aload_n 0, 1) := by decide +kernel
theorem dX8_release_14 : decode cX8_release 14 = .ok (.iload_n 1, 1) := by decide +kernel
theorem dX8_release_15 : decode cX8_release 15 = .ok (.iconst 5, 1) := by decide +kernel
theorem dX8_release_16 : decode cX8_release 16 = .ok (.invokevirtual 200, 3) := by decide +kernel
theorem dX8_release_19 : decode cX8_release 19 = .ok (.iconst 2, 1) := by decide +kernel
theorem dX8_release_20 : decode cX8_release 20 = .ok (.if_icmp .ne 5, 3) := by decide +kernel
theorem dX8_release_23 : decode cX8_release 23 = .ok (.iconst (-1), 1) := by decide +kernel
theorem dX8_release_24 : decode cX8_release 24 = .ok (.ireturn, 1) := by decide +kernel
theorem dX8_release_25 : decode cX8_release 25 = .ok (.aload_n 0, 1) := by decide +kernel
theorem dX8_release_26 : decode cX8_release 26 = .ok (.invokevirtual 296, 3) := by decide +kernel
theorem dX8_release_29 : decode cX8_release 29 = .ok (.aload_n 0, 1) := by decide +kernel
theorem dX8_release_30 : decode cX8_release 30 = .ok (.iload_n 1, 1) := by decide +kernel
theorem dX8_release_31 : decode cX8_release 31 = .ok (.iconst 5, 1) := by decide +kernel
theorem dX8_release_32 : decode cX8_release 32 = .ok (.iconst 2, 1) := by decide +kernel
theorem dX8_release_33 : decode cX8_release 33 = .ok (.invokevirtual 244, 3) := by decide +kernel
theorem dX8_release_36 : decode cX8_release 36 = .ok (.aload_n 0, 1) := by decide +kernel
theorem dX8_release_37 : decode cX8_release 37 = .ok (.invokevirtual 299, 3) := by decide +kernel
theorem dX8_release_40 : decode cX8_release 40 = .ok (.ireturn, 1) := by decide +kernel
theorem dX8_isLate_0 : decode cX8_isLate 0 = .ok (.aload_n 0, 1) := by decide +kernel
theorem dX8_isLate_1 : decode cX8_isLate 1 = .ok (.getfield 19, 3) := by decide +kernel
theorem dX8_isLate_4 : decode cX8_isLate 4 = .ok (.aload_n 0, 1) := by decide +kernel
theorem dX8_isLate_5 : decode cX8_isLate 5 = .ok (.iload_n 1, 1) := by decide +kernel
theorem dX8_isLate_6 : decode cX8_isLate 6 = .ok (.aload_n 0, 1) := by decide +kernel
theorem dX8_isLate_7 : decode cX8_isLate 7 = .ok (.getfield 19, 3) := by decide +kernel
theorem dX8_isLate_10 : decode cX8_isLate 10 = .ok (.iconst 0, 1) := by decide +kernel
theorem dX8_isLate_11 : decode cX8_isLate 11 = .ok (.iaload, 1) := by decide +kernel
theorem dX8_isLate_12 : decode cX8_isLate 12 = .ok (.invokevirtual 191, 3) := by decide +kernel
theorem dX8_isLate_15 : decode cX8_isLate 15 = .ok (.iaload, 1) := by decide +kernel
theorem dX8_isLate_16 : decode cX8_isLate 16 = .ok (.invokestatic 290, 3) := by decide +kernel
theorem dX8_isLate_19 : decode cX8_isLate 19 = .ok (.iconst 2, 1) := by decide +kernel
theorem dX8_isLate_20 : decode cX8_isLate 20 = .ok (.imul, 1) := by decide +kernel
theorem dX8_isLate_21 : decode cX8_isLate 21 = .ok (.aload_n 0, 1) := by decide +kernel
theorem dX8_isLate_22 : decode cX8_isLate 22 = .ok (.getfield 19, 3) := by decide +kernel
theorem dX8_isLate_25 : decode cX8_isLate 25 = .ok (.iconst 2, 1) := by decide +kernel
theorem dX8_isLate_26 : decode cX8_isLate 26 = .ok (.iaload, 1) := by decide +kernel
theorem dX8_isLate_27 : decode cX8_isLate 27 = .ok (.if_icmp .le 7, 3) := by decide +kernel
theorem dX8_isLate_30 : decode cX8_isLate 30 = .ok (.iconst 1, 1) := by decide +kernel
theorem dX8_isLate_31 : decode cX8_isLate 31 = .ok (.goto 4, 3) := by decide +kernel
theorem dX8_isLate_34 : decode cX8_isLate 34 = .ok (.iconst 0, 1) := by decide +kernel
theorem dX8_isLate_35 : decode cX8_isLate 35 = .ok (.ireturn, 1) := by decide +kernel
theorem dX8_passes_0 : decode cX8_passes 0 = .ok (.aload_n 0, 1) := by decide +kernel
theorem dX8_passes_1 : decode cX8_passes 1 = .ok (.getfield 19, 3) := by decide +kernel
theorem dX8_passes_4 : decode cX8_passes 4 = .ok (.iconst 0, 1) := by decide +kernel
theorem dX8_passes_5 : decode cX8_passes 5 = .ok (.dup2, 1) := by decide +kernel
theorem dX8_passes_6 : decode cX8_passes 6 = .ok (.iaload, 1) := by decide +kernel
theorem dX8_passes_7 : decode cX8_passes 7 = .ok (.iconst 1, 1) := by decide +kernel
theorem dX8_passes_8 : decode cX8_passes 8 = .ok (.iadd, 1) := by decide +kernel
theorem dX8_passes_9 : decode cX8_passes 9 = .ok (.iastore, 1) := by decide +kernel
theorem dX8_passes_10 : decode cX8_passes 10 = .ok (.aload_n 0, 1) := by decide +kernel
theorem dX8_passes_11 : decode cX8_passes 11 = .ok (.getfield 19, 3) := by decide +kernel
theorem dX8_passes_14 : decode cX8_passes 14 = .ok (.iconst 0, 1) := by decide +kernel
theorem dX8_passes_15 : decode cX8_passes 15 = .ok (.iaload, 1) := by decide +kernel
theorem dX8_passes_16 : decode cX8_passes 16 = .ok (.istore_n 1, 1) := by decide +kernel
theorem dX8_passes_17 : decode cX8_passes 17 = .ok (.iconst 0, 1) := by decide +kernel
theorem dX8_passes_18 : decode cX8_passes 18 = .ok (.istore_n 2, 1) := by decide +kernel
theorem dX8_passes_19 : decode cX8_passes 19 = .ok (.iload_n 2, 1) := by decide +kernel
theorem dX8_passes_20 : decode cX8_passes 20 = .ok (.aload_n 0, 1) := by decide +kernel
theorem dX8_passes_21 : decode cX8_passes 21 = .ok (.getfield 13, 3) := by decide +kernel
theorem dX8_passes_24 : decode cX8_passes 24 = .ok (.bipush 62, 2) := by decide +kernel
theorem dX8_passes_26 : decode cX8_passes 26 = .ok (.iaload, 1) := by decide +kernel
theorem dX8_passes_27 : decode cX8_passes 27 = .ok (.if_icmp .ge 39, 3) := by decide +kernel
theorem dX8_passes_30 : decode cX8_passes 30 = .ok (.aload_n 0, 1) := by decide +kernel
theorem dX8_passes_31 : decode cX8_passes 31 = .ok (.iload_n 2, 1) := by decide +kernel
theorem dX8_passes_32 : decode cX8_passes 32 = .ok (.iload_n 1, 1) := by decide +kernel
theorem dX8_passes_33 : decode cX8_passes 33 = .ok (.invokevirtual 281, 3) := by decide +kernel
theorem dX8_passes_36 : decode cX8_passes 36 = .ok (.aload_n 0, 1) := by decide +kernel
theorem dX8_passes_37 : decode cX8_passes 37 = .ok (.getfield 19, 3) := by decide +kernel
theorem dX8_passes_40 : decode cX8_passes 40 = .ok (.bipush 8, 2) := by decide +kernel
theorem dX8_passes_42 : decode cX8_passes 42 = .ok (.iload_n 2, 1) := by decide +kernel
theorem dX8_passes_43 : decode cX8_passes 43 = .ok (.iadd, 1) := by decide +kernel
theorem dX8_passes_44 : decode cX8_passes 44 = .ok (.aload_n 0, 1) := by decide +kernel
theorem dX8_passes_45 : decode cX8_passes 45 = .ok (.iload_n 2, 1) := by decide +kernel
theorem dX8_passes_46 : decode cX8_passes 46 = .ok (.aload_n 0, 1) := by decide +kernel
theorem dX8_passes_47 : decode cX8_passes 47 = .ok (.getfield 19, 3) := by decide +kernel
theorem dX8_passes_50 : decode cX8_passes 50 = .ok (.bipush 8, 2) := by decide +kernel
theorem dX8_passes_52 : decode cX8_passes 52 = .ok (.iload_n 2, 1) := by decide +kernel
theorem dX8_passes_53 : decode cX8_passes 53 = .ok (.iadd, 1) := by decide +kernel
theorem dX8_passes_54 : decode cX8_passes 54 = .ok (.iaload, 1) := by decide +kernel
theorem dX8_passes_55 : decode cX8_passes 55 = .ok (.iload_n 1, 1) := by decide +kernel
theorem dX8_passes_56 : decode cX8_passes 56 = .ok (.invokevirtual 284, 3) := by decide +kernel
theorem dX8_passes_59 : decode cX8_passes 59 = .ok (.iastore, 1) := by decide +kernel
theorem dX8_passes_60 : decode cX8_passes 60 = .ok (.iinc 2 1, 3) := by decide +kernel
theorem dX8_passes_63 : decode cX8_passes 63 = .ok (.goto (-44), 3) := by decide +kernel
theorem dX8_passes_66 : decode cX8_passes 66 = .ok (.iconst 0, 1) := by decide +kernel
theorem dX8_passes_67 : decode cX8_passes 67 = .ok (.istore_n 2, 1) := by decide +kernel
theorem dX8_passes_68 : decode cX8_passes 68 = .ok (.iconst 0, 1) := by decide +kernel
theorem dX8_passes_69 : decode cX8_passes 69 = .ok (.istore_n 3, 1) := by decide +kernel
theorem dX8_passes_70 : decode cX8_passes 70 = .ok (.iload_n 3, 1) := by decide +kernel
theorem dX8_passes_71 : decode cX8_passes 71 = .ok (.aload_n 0, 1) := by decide +kernel
theorem dX8_passes_72 : decode cX8_passes 72 = .ok (.getfield 19, 3) := by decide +kernel
theorem dX8_passes_75 : decode cX8_passes 75 = .ok (.sipush 404, 3) := by decide +kernel
theorem dX8_passes_78 : decode cX8_passes 78 = .ok (.iaload, 1) := by decide +kernel
theorem dX8_passes_79 : decode cX8_passes 79 = .ok (.if_icmp .ge 47, 3) := by decide +kernel
theorem dX8_passes_82 : decode cX8_passes 82 = .ok (.aload_n 0, 1) := by decide +kernel
theorem dX8_passes_83 : decode cX8_passes 83 = .ok (.iload_n 3, 1) := by decide +kernel
theorem dX8_passes_84 : decode cX8_passes 84 = .ok (.invokevirtual 203, 3) := by decide +kernel
theorem dX8_passes_87 : decode cX8_passes 87 = .ok (.ifCond .ne 6, 3) := by decide +kernel
theorem dX8_passes_90 : decode cX8_passes 90 = .ok (.goto 30, 3) := by decide +kernel
theorem dX8_passes_93 : decode cX8_passes 93 = .ok (.aload_n 0, 1) := by decide +kernel
theorem dX8_passes_94 : decode cX8_passes 94 = .ok (.iload_n 3, 1) := by decide +kernel
theorem dX8_passes_95 : decode cX8_passes 95 = .ok (.bipush 8, 2) := by decide +kernel
theorem dX8_passes_97 : decode cX8_passes 97 = .ok (.invokevirtual 200, 3) := by decide +kernel
theorem dX8_passes_100 : decode cX8_passes 100 = .ok (.iload_n 1, 1) := by decide +kernel
theorem dX8_passes_101 : decode cX8_passes 101 = .ok (.if_icmp .gt 13, 3) := by decide +kernel
theorem dX8_passes_104 : decode cX8_passes 104 = .ok (.aload_n 0, 1) := by decide +kernel
theorem dX8_passes_105 : decode cX8_passes 105 = .ok (.iload_n 3, 1) := by decide +kernel
theorem dX8_passes_106 : decode cX8_passes 106 = .ok (.iconst 5, 1) := by decide +kernel
theorem dX8_passes_107 : decode cX8_passes 107 = .ok (.iconst 2, 1) := by decide +kernel
theorem dX8_passes_108 : decode cX8_passes 108 = .ok (.invokevirtual 244, 3) := by decide +kernel
theorem dX8_passes_111 : decode cX8_passes 111 = .ok (.goto 9, 3) := by decide +kernel
theorem dX8_passes_114 : decode cX8_passes 114 = .ok (.iload_n 2, 1) := by decide +kernel
theorem dX8_passes_115 : decode cX8_passes 115 = .ok (.iconst 1, 1) := by decide +kernel
theorem dX8_passes_116 : decode cX8_passes 116 = .ok (.iload_n 3, 1) := by decide +kernel
theorem dX8_passes_117 : decode cX8_passes 117 = .ok (.ishl, 1) := by decide +kernel
theorem dX8_passes_118 : decode cX8_passes 118 = .ok (.ior, 1) := by decide +kernel
theorem dX8_passes_119 : decode cX8_passes 119 = .ok (.istore_n 2, 1) := by decide +kernel
theorem dX8_passes_120 : decode cX8_passes 120 = .ok (.iinc 3 1, 3) := by decide +kernel
theorem dX8_passes_123 : decode cX8_passes 123 = .ok (.goto (-53), 3) := by decide +kernel
theorem dX8_passes_126 : decode cX8_passes 126 = .ok (.aload_n 0, 1) := by decide +kernel
theorem dX8_passes_127 : decode cX8_passes 127 = .ok (.invokevirtual 299, 3) := by decide +kernel
theorem dX8_passes_130 : decode cX8_passes 130 = .ok (.istore_n 3, 1) := by decide +kernel
theorem dX8_passes_131 : decode cX8_passes 131 = .ok (.iconst 0, 1) := by decide +kernel
theorem dX8_passes_132 : decode cX8_passes 132 = .ok (.istore 4, 2) := by decide +kernel
theorem dX8_passes_134 : decode cX8_passes 134 = .ok (.iconst 0, 1) := by decide +kernel
theorem dX8_passes_135 : decode cX8_passes 135 = .ok (.istore 5, 2) := by decide +kernel
theorem dX8_passes_137 : decode cX8_passes 137 = .ok (.iload 5, 2) := by decide +kernel
theorem dX8_passes_139 : decode cX8_passes 139 = .ok (.aload_n 0, 1) := by decide +kernel
theorem dX8_passes_140 : decode cX8_passes 140 = .ok (.getfield 19, 3) := by decide +kernel
theorem dX8_passes_143 : decode cX8_passes 143 = .ok (.sipush 404, 3) := by decide +kernel
theorem dX8_passes_146 : decode cX8_passes 146 = .ok (.iaload, 1) := by decide +kernel
theorem dX8_passes_147 : decode cX8_passes 147 = .ok (.if_icmp .ge 62, 3) := by decide +kernel
theorem dX8_passes_150 : decode cX8_passes 150 = .ok (.iload_n 2, 1) := by decide +kernel
theorem dX8_passes_151 : decode cX8_passes 151 = .ok (.iload 5, 2) := by decide +kernel
theorem dX8_passes_153 : decode cX8_passes 153 = .ok (.ishr, 1) := by decide +kernel
theorem dX8_passes_154 : decode cX8_passes 154 = .ok (.iconst 1, 1) := by decide +kernel
theorem dX8_passes_155 : decode cX8_passes 155 = .ok (.iand, 1) := by decide +kernel
theorem dX8_passes_156 : decode cX8_passes 156 = .ok (.ifCond .ne 6, 3) := by decide +kernel
theorem dX8_passes_159 : decode cX8_passes 159 = .ok (.goto 44, 3) := by decide +kernel
theorem dX8_passes_162 : decode cX8_passes 162 = .ok (.aload_n 0, 1) := by decide +kernel
theorem dX8_passes_163 : decode cX8_passes 163 = .ok (.iload 5, 2) := by decide +kernel
theorem dX8_passes_165 : decode cX8_passes 165 = .ok (.invokevirtual 216, 3) := by decide +kernel
theorem dX8_passes_168 : decode cX8_passes 168 = .ok (.ifCond .ge 21, 3) := by decide +kernel
theorem dX8_passes_171 : decode cX8_passes 171 = .ok (.aload_n 0, 1) := by decide +kernel
theorem dX8_passes_172 : decode cX8_passes 172 = .ok (.iload 5, 2) := by decide +kernel
theorem dX8_passes_174 : decode cX8_passes 174 = .ok (.bipush 11, 2) := by decide +kernel
theorem dX8_passes_176 : decode cX8_passes 176 = .ok (.aload_n 0, 1) := by decide +kernel
theorem dX8_passes_177 : decode cX8_passes 177 = .ok (.iload 5, 2) := by decide +kernel
theorem dX8_passes_179 : decode cX8_passes 179 = .ok (.bipush 11, 2) := by decide +kernel
theorem dX8_passes_181 : decode cX8_passes 181 = .ok (.invokevirtual 200, 3) := by decide +kernel
theorem dX8_passes_184 : decode cX8_passes 184 = .ok (.iconst 1, 1) := by decide +kernel
theorem dX8_passes_185 : decode cX8_passes 185 = .ok (.iadd, 1) := by decide +kernel
theorem dX8_passes_186 : decode cX8_passes 186 = .ok (.invokevirtual 244, 3) := by decide +kernel
theorem dX8_passes_189 : decode cX8_passes 189 = .ok (.iload 4, 2) := by decide +kernel
theorem dX8_passes_191 : decode cX8_passes 191 = .ok (.iconst 1, 1) := by decide +kernel
theorem dX8_passes_192 : decode cX8_passes 192 = .ok (.aload_n 0, 1) := by decide +kernel
theorem dX8_passes_193 : decode cX8_passes 193 = .ok (.iload 5, 2) := by decide +kernel
theorem dX8_passes_195 : decode cX8_passes 195 = .ok (.iconst 0, 1) := by decide +kernel
theorem dX8_passes_196 : decode cX8_passes 196 = .ok (.invokevirtual 200, 3) := by decide +kernel
theorem dX8_passes_199 : decode cX8_passes 199 = .ok (.ishl, 1) := by decide +kernel
theorem dX8_passes_200 : decode cX8_passes 200 = .ok (.ior, 1) := by decide +kernel
theorem dX8_passes_201 : decode cX8_passes 201 = .ok (.istore 4, 2) := by decide +kernel
theorem dX8_passes_203 : decode cX8_passes 203 = .ok (.iinc 5 1, 3) := by decide +kernel
theorem dX8_passes_206 : decode cX8_passes 206 = .ok (.goto (-69), 3) := by decide +kernel
theorem dX8_passes_209 : decode cX8_passes 209 = .ok (.iconst 0, 1) := by decide +kernel
theorem dX8_passes_210 : decode cX8_passes 210 = .ok (.istore 5, 2) := by decide +kernel
theorem dX8_passes_212 : decode cX8_passes 212 = .ok (.iload 5, 2) := by decide +kernel
theorem dX8_passes_214 : decode cX8_passes 214 = .ok (.aload_n 0, 1) := by decide +kernel
theorem dX8_passes_215 : decode cX8_passes 215 = .ok (.getfield 13, 3) := by decide +kernel
theorem dX8_passes_218 : decode cX8_passes 218 = .ok (.bipush 62, 2) := by decide +kernel
theorem dX8_passes_220 : decode cX8_passes 220 = .ok (.iaload, 1) := by decide +kernel
theorem dX8_passes_221 : decode cX8_passes 221 = .ok (.if_icmp .ge 47, 3) := by decide +kernel
theorem dX8_passes_224 : decode cX8_passes 224 = .ok (.aload_n 0, 1) := by decide +kernel
theorem dX8_passes_225 : decode cX8_passes 225 = .ok (.getfield 19, 3) := by decide +kernel
theorem dX8_passes_228 : decode cX8_passes 228 = .ok (.bipush 14, 2) := by decide +kernel
theorem dX8_passes_230 : decode cX8_passes 230 = .ok (.iload 5, 2) := by decide +kernel
theorem dX8_passes_232 : decode cX8_passes 232 = .ok (.iadd, 1) := by decide +kernel
theorem dX8_passes_233 : decode cX8_passes 233 = .ok (.dup2, 1) := by decide +kernel
theorem dX8_passes_234 : decode cX8_passes 234 = .ok (.iaload, 1) := by decide +kernel
theorem dX8_passes_235 : decode cX8_passes 235 = .ok (.iload 4, 2) := by decide +kernel
theorem dX8_passes_237 : decode cX8_passes 237 = .ok (.iload 5, 2) := by decide +kernel
theorem dX8_passes_239 : decode cX8_passes 239 = .ok (.ishr, 1) := by decide +kernel
theorem dX8_passes_240 : decode cX8_passes 240 = .ok (.iconst 1, 1) := by decide +kernel
theorem dX8_passes_241 : decode cX8_passes 241 = .ok (.iand, 1) := by decide +kernel
theorem dX8_passes_242 : decode cX8_passes 242 = .ok (.iconst 1, 1) := by decide +kernel
theorem dX8_passes_243 : decode cX8_passes 243 = .ok (.if_icmp .ne 16, 3) := by decide +kernel
theorem dX8_passes_246 : decode cX8_passes 246 = .ok (.aload_n 0, 1) := by decide +kernel
theorem dX8_passes_247 : decode cX8_passes 247 = .ok (.iload 5, 2) := by decide +kernel
theorem dX8_passes_249 : decode cX8_passes 249 = .ok (.invokevirtual 302, 3) := by decide +kernel
theorem dX8_passes_252 : decode cX8_passes 252 = .ok (.ifCond .eq 7, 3) := by decide +kernel
theorem dX8_passes_255 : decode cX8_passes 255 = .ok (.iconst 1, 1) := by decide +kernel
theorem dX8_passes_256 : decode cX8_passes 256 = .ok (.goto 4, 3) := by decide +kernel
theorem dX8_passes_259 : decode cX8_passes 259 = .ok (.iconst 0, 1) := by decide +kernel
theorem dX8_passes_260 : decode cX8_passes 260 = .ok (.iadd, 1) := by decide +kernel
theorem dX8_passes_261 : decode cX8_passes 261 = .ok (.iastore, 1) := by decide +kernel
theorem dX8_passes_262 : decode cX8_passes 262 = .ok (.iinc 5 1, 3) := by decide +kernel
theorem dX8_passes_265 : decode cX8_passes 265 = .ok (.goto (-53), 3) := by decide +kernel
theorem dX8_passes_268 : decode cX8_passes 268 = .ok (.return_, 1) := by decide +kernel
theorem dX8_advance_0 : decode cX8_advance 0 = .ok (.aload_n 0, 1) := by decide +kernel
theorem dX8_advance_1 : decode cX8_advance 1 = .ok (.iconst 0, 1) := by decide +kernel
theorem dX8_advance_2 : decode cX8_advance 2 = .ok (.putfield 47, 3) := by decide +kernel
theorem dX8_advance_5 : decode cX8_advance 5 = .ok (.iload_n 1, 1) := by decide +kernel
theorem dX8_advance_6 : decode cX8_advance 6 = .ok (.iconst 1, 1) := by decide +kernel
theorem dX8_advance_7 : decode cX8_advance 7 = .ok (.if_icmp .lt 10, 3) := by decide +kernel
theorem dX8_advance_10 : decode cX8_advance 10 = .ok (.iload_n 1, 1) := by decide +kernel
theorem dX8_advance_11 : decode cX8_advance 11 = .ok (.sipush 200, 3) := by decide +kernel
theorem dX8_advance_14 : decode cX8_advance 14 = .ok (.if_icmp .le 6, 3) := by decide +kernel
theorem dX8_advance_17 : decode cX8_advance 17 = .ok (.bipush (-2), 2) := by decide +kernel
theorem dX8_advance_19 : decode cX8_advance 19 = .ok (.ireturn, 1) := by decide +kernel
theorem dX8_advance_20 : decode cX8_advance 20 = .ok (.aload_n 0, 1) := by decide +kernel
theorem dX8_advance_21 : decode cX8_advance 21 = .ok (.getfield 19, 3) := by decide +kernel
theorem dX8_advance_24 : decode cX8_advance 24 = .ok (.iconst 0, 1) := by decide +kernel
theorem dX8_advance_25 : decode cX8_advance 25 = .ok (.iaload, 1) := by decide +kernel
theorem dX8_advance_26 : decode cX8_advance 26 = .ok (.iload_n 1, 1) := by decide +kernel
theorem dX8_advance_27 : decode cX8_advance 27 = .ok (.iadd, 1) := by decide +kernel
theorem dX8_advance_28 : decode cX8_advance 28 = .ok (.sipush 9999, 3) := by decide +kernel
theorem dX8_advance_31 : decode cX8_advance 31 = .ok (.if_icmp .le 6, 3) := by decide +kernel
theorem dX8_advance_34 : decode cX8_advance 34 = .ok (.bipush (-3), 2) := by decide +kernel
theorem dX8_advance_36 : decode cX8_advance 36 = .ok (.ireturn, 1) := by decide +kernel
theorem dX8_advance_37 : decode cX8_advance 37 = .ok (.aload_n 0, 1) := by decide +kernel
theorem dX8_advance_38 : decode cX8_advance 38 = .ok (.invokevirtual 296, 3) := by decide +kernel
theorem dX8_advance_41 : decode cX8_advance 41 = .ok (.iconst 0, 1) := by decide +kernel
theorem dX8_advance_42 : decode cX8_advance 42 = .ok (.istore_n 2, 1) := by decide +kernel
theorem dX8_advance_43 : decode cX8_advance 43 = .ok (.iload_n 2, 1) := by decide +kernel
theorem dX8_advance_44 : decode cX8_advance 44 = .ok (.iload_n 1, 1) := by decide +kernel
theorem dX8_advance_45 : decode cX8_advance 45 = .ok (.if_icmp .ge 13, 3) := by decide +kernel
theorem dX8_advance_48 : decode cX8_advance 48 = .ok (.aload_n 0, 1) := by decide +kernel
theorem dX8_advance_49 : decode cX8_advance 49 = .ok (.invokevirtual 293, 3) := by decide +kernel
theorem dX8_advance_52 : decode cX8_advance 52 = .ok (.iinc 2 1, 3) := by decide +kernel
theorem dX8_advance_55 : decode cX8_advance 55 = .ok (.goto (-12), 3) := by decide +kernel
theorem dX8_advance_58 : decode cX8_advance 58 = .ok (.aload_n 0, 1) := by decide +kernel
theorem dX8_advance_59 : decode cX8_advance 59 = .ok (.getfield 19, 3) := by decide +kernel
theorem dX8_advance_62 : decode cX8_advance 62 = .ok (.iconst 0, 1) := by decide +kernel
theorem dX8_advance_63 : decode cX8_advance 63 = .ok (.iaload, 1) := by decide +kernel
theorem dX8_advance_64 : decode cX8_advance 64 = .ok (.ireturn, 1) := by decide +kernel
theorem dX8_setSetting_0 : decode cX8_setSetting 0 = .ok (.aload_n 0, 1) := by decide +kernel
theorem dX8_setSetting_1 : decode cX8_setSetting 1 = .ok (.iconst 0, 1) := by decide +kernel
theorem dX8_setSetting_2 : decode cX8_setSetting 2 = .ok (.putfield 47, 3) := by decide +kernel
theorem dX8_setSetting_5 : decode cX8_setSetting 5 = .ok (.iload_n 1, 1) := by decide +kernel
theorem dX8_setSetting_6 : decode cX8_setSetting 6 = .ok (.iconst 4, 1) := by decide +kernel
theorem dX8_setSetting_7 : decode cX8_setSetting 7 = .ok (.if_icmp .lt 25, 3) := by decide +kernel
theorem dX8_setSetting_10 : decode cX8_setSetting 10 = .ok (.iload_n 1, 1) := by decide +kernel
theorem dX8_setSetting_11 : decode cX8_setSetting 11 = .ok (.bipush 6, 2) := by decide +kernel
theorem dX8_setSetting_13 : decode cX8_setSetting 13 = .ok (.if_icmp .gt 19, 3) := by decide +kernel
theorem dX8_setSetting_16 : decode cX8_setSetting 16 = .ok (.iload_n 2, 1) := by decide +kernel
theorem dX8_setSetting_17 : decode cX8_setSetting 17 = .ok (.iload_n 1, 1) := by decide +kernel
theorem dX8_setSetting_18 : decode cX8_setSetting 18 = .ok (.invokestatic 148, 3) := by decide +kernel
theorem dX8_setSetting_21 : decode cX8_setSetting 21 = .ok (.if_icmp .lt 11, 3) := by decide +kernel
theorem dX8_setSetting_24 : decode cX8_setSetting 24 = .ok (.iload_n 2, 1) := by decide +kernel
theorem dX8_setSetting_25 : decode cX8_setSetting 25 = .ok (.iload_n 1, 1) := by decide +kernel
theorem dX8_setSetting_26 : decode cX8_setSetting 26 = .ok (.invokestatic 151, 3) := by decide +kernel
theorem dX8_setSetting_29 : decode cX8_setSetting 29 = .ok (.if_icmp .le 6, 3) := by decide +kernel
theorem dX8_setSetting_32 : decode cX8_setSetting 32 = .ok (.bipush (-2), 2) := by decide +kernel
theorem dX8_setSetting_34 : decode cX8_setSetting 34 = .ok (.ireturn, 1) := by decide +kernel
theorem dX8_setSetting_35 : decode cX8_setSetting 35 = .ok (.aload_n 0, 1) := by decide +kernel
theorem dX8_setSetting_36 : decode cX8_setSetting 36 = .ok (.invokevirtual 296, 3) := by decide +kernel
theorem dX8_setSetting_39 : decode cX8_setSetting 39 = .ok (.aload_n 0, 1) := by decide +kernel
theorem dX8_setSetting_40 : decode cX8_setSetting 40 = .ok (.getfield 19, 3) := by decide +kernel
theorem dX8_setSetting_43 : decode cX8_setSetting 43 = .ok (.iconst 1, 1) := by decide +kernel
theorem dX8_setSetting_44 : decode cX8_setSetting 44 = .ok (.iload_n 1, 1) := by decide +kernel
theorem dX8_setSetting_45 : decode cX8_setSetting 45 = .ok (.iadd, 1) := by decide +kernel
theorem dX8_setSetting_46 : decode cX8_setSetting 46 = .ok (.iaload, 1) := by decide +kernel
theorem dX8_setSetting_47 : decode cX8_setSetting 47 = .ok (.istore_n 3, 1) := by decide +kernel
theorem dX8_setSetting_48 : decode cX8_setSetting 48 = .ok (.aload_n 0, 1) := by decide +kernel
theorem dX8_setSetting_49 : decode cX8_setSetting 49 = .ok (.getfield 19, 3) := by decide +kernel
theorem dX8_setSetting_52 : decode cX8_setSetting 52 = .ok (.iconst 1, 1) := by decide +kernel
theorem dX8_setSetting_53 : decode cX8_setSetting 53 = .ok (.iload_n 1, 1) := by decide +kernel
theorem dX8_setSetting_54 : decode cX8_setSetting 54 = .ok (.iadd, 1) := by decide +kernel
theorem dX8_setSetting_55 : decode cX8_setSetting 55 = .ok (.iload_n 2, 1) := by decide +kernel
theorem dX8_setSetting_56 : decode cX8_setSetting 56 = .ok (.iastore, 1) := by decide +kernel
theorem dX8_setSetting_57 : decode cX8_setSetting 57 = .ok (.iload_n 3, 1) := by decide +kernel
theorem dX8_setSetting_58 : decode cX8_setSetting 58 = .ok (.ireturn, 1) := by decide +kernel
theorem dX8_acquire_0 : decode cX8_acquire 0 = .ok (.aload_n 0, 1) := by decide +kernel
theorem dX8_acquire_1 : decode cX8_acquire 1 = .ok (.iconst 0, 1) := by decide +kernel
theorem dX8_acquire_2 : decode cX8_acquire 2 = .ok (.putfield 47, 3) := by decide +kernel
theorem dX8_acquire_5 : decode cX8_acquire 5 = .ok (.aload_n 0, 1) := by decide +kernel
theorem dX8_acquire_6 : decode cX8_acquire 6 = .ok (.iload_n 1, 1) := by decide +kernel
theorem dX8_acquire_7 : decode cX8_acquire 7 = .ok (.invokevirtual 178, 3) := by decide +kernel
theorem dX8_acquire_10 : decode cX8_acquire 10 = .ok (.ifCond .ne 5, 3) := by decide +kernel
theorem dX8_acquire_13 : decode cX8_acquire 13 = .ok (.iconst 0, 1) := by decide +kernel
theorem dX8_acquire_14 : decode cX8_acquire 14 = .ok (.ireturn, 1) := by decide +kernel
theorem dX8_acquire_15 : decode cX8_acquire 15 = .ok (.aload_n 0, 1) := by decide +kernel
theorem dX8_acquire_16 : decode cX8_acquire 16 = .ok (.invokevirtual 296, 3) := by decide +kernel
theorem dX8_acquire_19 : decode cX8_acquire 19 = .ok (.iconst 0, 1) := by decide +kernel
theorem dX8_acquire_20 : decode cX8_acquire 20 = .ok (.istore_n 2, 1) := by decide +kernel
theorem dX8_acquire_21 : decode cX8_acquire 21 = .ok (.iload_n 2, 1) := by decide +kernel
theorem dX8_acquire_22 : decode cX8_acquire 22 = .ok (.bipush 64, 2) := by decide +kernel
theorem dX8_acquire_24 : decode cX8_acquire 24 = .ok (.if_icmp .ge 24, 3) := by decide +kernel
theorem dX8_acquire_27 : decode cX8_acquire 27 = .ok (.aload_n 0, 1) := by decide +kernel
theorem dX8_acquire_28 : decode cX8_acquire 28 = .ok (.getfield 19, 3) := by decide +kernel
theorem dX8_acquire_31 : decode cX8_acquire 31 = .ok (.bipush 20, 2) := by decide +kernel
theorem dX8_acquire_33 : decode cX8_acquire 33 = .ok (.bipush 64, 2) := by decide +kernel
theorem dX8_acquire_35 : decode cX8_acquire 35 = .ok (.iload_n 1, 1) := by decide +kernel
theorem dX8_acquire_36 : decode cX8_acquire 36 = .ok (.imul, 1) := by decide +kernel
theorem dX8_acquire_37 : decode cX8_acquire 37 = .ok (.iadd, 1) := by decide +kernel
theorem dX8_acquire_38 : decode cX8_acquire 38 = .ok (.iload_n 2, 1) := by decide +kernel
theorem dX8_acquire_39 : decode cX8_acquire 39 = .ok (.iadd, 1) := by decide +kernel
theorem dX8_acquire_40 : decode cX8_acquire 40 = .ok (.iconst 0, 1) := by decide +kernel
theorem dX8_acquire_41 : decode cX8_acquire 41 = .ok (.iastore, 1) := by decide +kernel
theorem dX8_acquire_42 : decode cX8_acquire 42 = .ok (.iinc 2 1, 3) := by decide +kernel
theorem dX8_acquire_45 : decode cX8_acquire 45 = .ok (.goto (-24), 3) := by decide +kernel
theorem dX8_acquire_48 : decode cX8_acquire 48 = .ok (.iconst 1, 1) := by decide +kernel
theorem dX8_acquire_49 : decode cX8_acquire 49 = .ok (.ireturn, 1) := by decide +kernel
theorem dX8_compact_0 : decode cX8_compact 0 = .ok (.aload_n 0, 1) := by decide +kernel
theorem dX8_compact_1 : decode cX8_compact 1 = .ok (.iconst 0, 1) := by decide +kernel
theorem dX8_compact_2 : decode cX8_compact 2 = .ok (.putfield 47, 3) := by decide +kernel
theorem dX8_compact_5 : decode cX8_compact 5 = .ok (.aload_n 0, 1) := by decide +kernel
theorem dX8_compact_6 : decode cX8_compact 6 = .ok (.iconst 2, 1) := by decide +kernel
theorem dX8_compact_7 : decode cX8_compact 7 = .ok (.aload_n 0, 1) := by decide +kernel
theorem dX8_compact_8 : decode cX8_compact 8 = .ok (.getfield 13, 3) := by decide +kernel
theorem dX8_compact_11 : decode cX8_compact 11 = .ok (.bipush 64, 2) := by decide +kernel
theorem dX8_compact_13 : decode cX8_compact 13 = .ok (.iaload, 1) := by decide +kernel
theorem dX8_compact_14 : decode cX8_compact 14 = .ok (.invokevirtual 274, 3) := by decide +kernel
theorem dX8_compact_17 : decode cX8_compact 17 = .ok (.ifCond .ne 6, 3) := by decide +kernel
theorem dX8_compact_20 : decode cX8_compact 20 = .ok (.bipush (-3), 2) := by decide +kernel
theorem dX8_compact_22 : decode cX8_compact 22 = .ok (.ireturn, 1) := by decide +kernel
theorem dX8_compact_23 : decode cX8_compact 23 = .ok (.aload_n 0, 1) := by decide +kernel
theorem dX8_compact_24 : decode cX8_compact 24 = .ok (.invokevirtual 296, 3) := by decide +kernel
theorem dX8_compact_27 : decode cX8_compact 27 = .ok (.iconst 0, 1) := by decide +kernel
theorem dX8_compact_28 : decode cX8_compact 28 = .ok (.istore_n 1, 1) := by decide +kernel
theorem dX8_compact_29 : decode cX8_compact 29 = .ok (.iconst 0, 1) := by decide +kernel
theorem dX8_compact_30 : decode cX8_compact 30 = .ok (.istore_n 2, 1) := by decide +kernel
theorem dX8_compact_31 : decode cX8_compact 31 = .ok (.iload_n 2, 1) := by decide +kernel
theorem dX8_compact_32 : decode cX8_compact 32 = .ok (.aload_n 0, 1) := by decide +kernel
theorem dX8_compact_33 : decode cX8_compact 33 = .ok (.getfield 19, 3) := by decide +kernel
theorem dX8_compact_36 : decode cX8_compact 36 = .ok (.sipush 404, 3) := by decide +kernel
theorem dX8_compact_39 : decode cX8_compact 39 = .ok (.iaload, 1) := by decide +kernel
theorem dX8_compact_40 : decode cX8_compact 40 = .ok (.if_icmp .ge 86, 3) := by decide +kernel
theorem dX8_compact_43 : decode cX8_compact 43 = .ok (.aload_n 0, 1) := by decide +kernel
theorem dX8_compact_44 : decode cX8_compact 44 = .ok (.iload_n 2, 1) := by decide +kernel
theorem dX8_compact_45 : decode cX8_compact 45 = .ok (.invokevirtual 203, 3) := by decide +kernel
theorem dX8_compact_48 : decode cX8_compact 48 = .ok (.ifCond .ne 6, 3) := by decide +kernel
theorem dX8_compact_51 : decode cX8_compact 51 = .ok (.goto 69, 3) := by decide +kernel
theorem dX8_compact_54 : decode cX8_compact 54 = .ok (.iload_n 1, 1) := by decide +kernel
theorem dX8_compact_55 : decode cX8_compact 55 = .ok (.aload_n 0, 1) := by decide +kernel
theorem dX8_compact_56 : decode cX8_compact 56 = .ok (.iload_n 2, 1) := by decide +kernel
theorem dX8_compact_57 : decode cX8_compact 57 = .ok (.bipush 6, 2) := by decide +kernel
theorem dX8_compact_59 : decode cX8_compact 59 = .ok (.invokevirtual 200, 3) := by decide +kernel
theorem dX8_compact_62 : decode cX8_compact 62 = .ok (.aload_n 0, 1) := by decide +kernel
theorem dX8_compact_63 : decode cX8_compact 63 = .ok (.getfield 35, 3) := by decide +kernel
theorem dX8_compact_66 : decode cX8_compact 66 = .ok (.iload_n 2, 1) := by decide +kernel
theorem dX8_compact_67 : decode cX8_compact 67 = .ok (.iaload, 1) := by decide +kernel
theorem dX8_compact_68 : decode cX8_compact 68 = .ok (.if_icmp .ne 19, 3) := by decide +kernel
theorem dX8_compact_71 : decode cX8_compact 71 = .ok (.aload_n 0, 1) := by decide +kernel
theorem dX8_compact_72 : decode cX8_compact 72 = .ok (.iload_n 2, 1) := by decide +kernel
theorem dX8_compact_73 : decode cX8_compact 73 = .ok (.bipush 7, 2) := by decide +kernel
theorem dX8_compact_75 : decode cX8_compact 75 = .ok (.invokevirtual 200, 3) := by decide +kernel
theorem dX8_compact_78 : decode cX8_compact 78 = .ok (.aload_n 0, 1) := by decide +kernel
theorem dX8_compact_79 : decode cX8_compact 79 = .ok (.getfield 38, 3) := by decide +kernel
theorem dX8_compact_82 : decode cX8_compact 82 = .ok (.iload_n 2, 1) := by decide +kernel
theorem dX8_compact_83 : decode cX8_compact 83 = .ok (.iaload, 1) := by decide +kernel
theorem dX8_compact_84 : decode cX8_compact 84 = .ok (.if_icmp .eq 7, 3) := by decide +kernel
theorem dX8_compact_87 : decode cX8_compact 87 = .ok (.iconst 1, 1) := by decide +kernel
theorem dX8_compact_88 : decode cX8_compact 88 = .ok (.goto 4, 3) := by decide +kernel
theorem dX8_compact_91 : decode cX8_compact 91 = .ok (.iconst 0, 1) := by decide +kernel
theorem dX8_compact_92 : decode cX8_compact 92 = .ok (.iadd, 1) := by decide +kernel
theorem dX8_compact_93 : decode cX8_compact 93 = .ok (.istore_n 1, 1) := by decide +kernel
theorem dX8_compact_94 : decode cX8_compact 94 = .ok (.aload_n 0, 1) := by decide +kernel
theorem dX8_compact_95 : decode cX8_compact 95 = .ok (.iload_n 2, 1) := by decide +kernel
theorem dX8_compact_96 : decode cX8_compact 96 = .ok (.bipush 6, 2) := by decide +kernel
theorem dX8_compact_98 : decode cX8_compact 98 = .ok (.aload_n 0, 1) := by decide +kernel
theorem dX8_compact_99 : decode cX8_compact 99 = .ok (.getfield 35, 3) := by decide +kernel
theorem dX8_compact_102 : decode cX8_compact 102 = .ok (.iload_n 2, 1) := by decide +kernel
theorem dX8_compact_103 : decode cX8_compact 103 = .ok (.iaload, 1) := by decide +kernel
theorem dX8_compact_104 : decode cX8_compact 104 = .ok (.invokevirtual 244, 3) := by decide +kernel
theorem dX8_compact_107 : decode cX8_compact 107 = .ok (.aload_n 0, 1) := by decide +kernel
theorem dX8_compact_108 : decode cX8_compact 108 = .ok (.iload_n 2, 1) := by decide +kernel
theorem dX8_compact_109 : decode cX8_compact 109 = .ok (.bipush 7, 2) := by decide +kernel
theorem dX8_compact_111 : decode cX8_compact 111 = .ok (.aload_n 0, 1) := by decide +kernel
theorem dX8_compact_112 : decode cX8_compact 112 = .ok (.getfield 38, 3) := by decide +kernel
theorem dX8_compact_115 : decode cX8_compact 115 = .ok (.iload_n 2, 1) := by decide +kernel
theorem dX8_compact_116 : decode cX8_compact 116 = .ok (.iaload, 1) := by decide +kernel
theorem dX8_compact_117 : decode cX8_compact 117 = .ok (.invokevirtual 244, 3) := by decide +kernel
theorem dX8_compact_120 : decode cX8_compact 120 = .ok (.iinc 2 1, 3) := by decide +kernel
theorem dX8_compact_123 : decode cX8_compact 123 = .ok (.goto (-92), 3) := by decide +kernel
theorem dX8_compact_126 : decode cX8_compact 126 = .ok (.aload_n 0, 1) := by decide +kernel
theorem dX8_compact_127 : decode cX8_compact 127 = .ok (.invokevirtual 299, 3) := by decide +kernel
theorem dX8_compact_130 : decode cX8_compact 130 = .ok (.istore_n 2, 1) := by decide +kernel
theorem dX8_compact_131 : decode cX8_compact 131 = .ok (.iload_n 1, 1) := by decide +kernel
theorem dX8_compact_132 : decode cX8_compact 132 = .ok (.ireturn, 1) := by decide +kernel
