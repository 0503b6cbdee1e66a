theorem dX0_init_0 : decode cX0_init 0 = .ok (.aload_n 0, 1) := by decide +kernel
theorem dX0_init_1 : decode cX0_init 1 = .ok (.invokespecial 3, 3) := by decide +kernel
theorem dX0_init_4 : decode cX0_init 4 = .ok (.return_, 1) := by decide +kernel
theorem dX0_copyFrom_0 : decode cX0_copyFrom 0 = .ok (.aload_n 0, 1) := by decide +kernel
theorem dX0_copyFrom_1 : decode cX0_copyFrom 1 = .ok (.aload_n 1, 1) := by decide +kernel
theorem dX0_copyFrom_2 : decode cX0_copyFrom 2 = .ok (.getfield 9, 3) := by decide +kernel
theorem dX0_copyFrom_5 : decode cX0_copyFrom 5 = .ok (.putfield 9, 3) := by decide +kernel
theorem dX0_copyFrom_8 : decode cX0_copyFrom 8 = .ok (.aload_n 0, 1) := by decide +kernel
theorem dX0_copyFrom_9 : decode cX0_copyFrom 9 = .ok (.aload_n 1, 1) := by decide +kernel
theorem dX0_copyFrom_10 : decode cX0_copyFrom 10 = .ok (.getfield 15, 3) := by decide +kernel
theorem dX0_copyFrom_13 : decode cX0_copyFrom 13 = .ok (.putfield 15, 3) := by decide +kernel
theorem dX0_copyFrom_16 : decode cX0_copyFrom 16 = .ok (.aload_n 0, 1) := by decide +kernel
theorem dX0_copyFrom_17 : decode cX0_copyFrom 17 = .ok (.aload_n 1, 1) := by decide +kernel
theorem dX0_copyFrom_18 : decode cX0_copyFrom 18 = .ok (.getfield 18, 3) := by decide +kernel
theorem dX0_copyFrom_21 : decode cX0_copyFrom 21 = .ok (.putfield 18, 3) := by decide +kernel
theorem dX0_copyFrom_24 : decode cX0_copyFrom 24 = .ok (.aload_n 0, 1) := by decide +kernel
theorem dX0_copyFrom_25 : decode cX0_copyFrom 25 = .ok (.aload_n 1, 1) := by decide +kernel
theorem dX0_copyFrom_26 : decode cX0_copyFrom 26 = .ok (.getfield 21, 3) := by decide +kernel
theorem dX0_copyFrom_29 : decode cX0_copyFrom 29 = .ok (.putfield 21, 3) := by decide +kernel
theorem dX0_copyFrom_32 : decode cX0_copyFrom 32 = .ok (.aload_n 0, 1) := by decide +kernel
theorem dX0_copyFrom_33 : decode cX0_copyFrom 33 = .ok (.aload_n 1, 1) := by decide +kernel
theorem dX0_copyFrom_34 : decode cX0_copyFrom 34 = .ok (.getfield 24, 3) := by decide +kernel
theorem dX0_copyFrom_37 : decode cX0_copyFrom 37 = .ok (.putfield 24, 3) := by decide +kernel
theorem dX0_copyFrom_40 : decode cX0_copyFrom 40 = .ok (.aload_n 0, 1) := by decide +kernel
theorem dX0_copyFrom_41 : decode cX0_copyFrom 41 = .ok (.aload_n 1, 1) := by decide +kernel
theorem dX0_copyFrom_42 : decode cX0_copyFrom 42 = .ok (.getfield 27, 3) := by decide +kernel
theorem dX0_copyFrom_45 : decode cX0_copyFrom 45 = .ok (.putfield 27, 3) := by decide +kernel
theorem dX0_copyFrom_48 : decode cX0_copyFrom 48 = .ok (.aload_n 0, 1) := by decide +kernel
theorem dX0_copyFrom_49 : decode cX0_copyFrom 49 = .ok (.aload_n 1, 1) := by decide +kernel
theorem dX0_copyFrom_50 : decode cX0_copyFrom 50 = .ok (.getfield 30, 3) := by decide +kernel
theorem dX0_copyFrom_53 : decode cX0_copyFrom 53 = .ok (.putfield 30, 3) := by decide +kernel
theorem dX0_copyFrom_56 : decode cX0_copyFrom 56 = .ok (.aload_n 0, 1) := by decide +kernel
theorem dX0_copyFrom_57 : decode cX0_copyFrom 57 = .ok (.aload_n 1, 1) := by decide +kernel
theorem dX0_copyFrom_58 : decode cX0_copyFrom 58 = .ok (.getfield 33, 3) := by decide +kernel
theorem dX0_copyFrom_61 : decode cX0_copyFrom 61 = .ok (.putfield 33, 3) := by decide +kernel
theorem dX0_copyFrom_64 : decode cX0_copyFrom 64 = .ok (.aload_n 0, 1) := by decide +kernel
theorem dX0_copyFrom_65 : decode cX0_copyFrom 65 = .ok (.aload_n 1, 1) := by decide +kernel
theorem dX0_copyFrom_66 : decode cX0_copyFrom 66 = .ok (.getfield 36, 3) := by decide +kernel
theorem dX0_copyFrom_69 : decode cX0_copyFrom 69 = .ok (.putfield 36, 3) := by decide +kernel
theorem dX0_copyFrom_72 : decode cX0_copyFrom 72 = .ok (.aload_n 0, 1) := by decide +kernel
theorem dX0_copyFrom_73 : decode cX0_copyFrom 73 = .ok (.aload_n 1, 1) := by decide +kernel
theorem dX0_copyFrom_74 : decode cX0_copyFrom 74 = .ok (.getfield 39, 3) := by decide +kernel
theorem dX0_copyFrom_77 : decode cX0_copyFrom 77 = .ok (.putfield 39, 3) := by decide +kernel
theorem dX0_copyFrom_80 : decode cX0_copyFrom 80 = .ok (.aload_n 0, 1) := by decide +kernel
theorem dX0_copyFrom_81 : decode cX0_copyFrom 81 = .ok (.aload_n 1, 1) := by decide +kernel
theorem dX0_copyFrom_82 : decode cX0_copyFrom 82 = .ok (.getfield 42, 3) := by decide +kernel
theorem dX0_copyFrom_85 : decode cX0_copyFrom 85 = .ok (.putfield 42, 3) := by decide +kernel
theorem dX0_copyFrom_88 : decode cX0_copyFrom 88 = .ok (.return_, 1) := by decide +kernel
theorem dX0_endFrame_0 : decode cX0_endFrame 0 = .ok (.aload_n 0, 1) := by decide +kernel
theorem dX0_endFrame_1 : decode cX0_endFrame 1 = .ok (.getfield 39, 3) := by decide +kernel
theorem dX0_endFrame_4 : decode cX0_endFrame 4 = .ok (.aload_n 0, 1) := by decide +kernel
theorem dX0_endFrame_5 : decode cX0_endFrame 5 = .ok (.getfield 24, 3) := by decide +kernel
theorem dX0_endFrame_8 : decode cX0_endFrame 8 = .ok (.iadd, 1) := by decide +kernel
theorem dX0_endFrame_9 : decode cX0_endFrame 9 = .ok (.ireturn, 1) := by decide +kernel
theorem dX0_isOn_0 : decode cX0_isOn 0 = .ok (.aload_n 0, 1) := by decide +kernel
theorem dX0_isOn_1 : decode cX0_isOn 1 = .ok (.getfield 27, 3) := by decide +kernel
theorem dX0_isOn_4 : decode cX0_isOn 4 = .ok (.iconst 1, 1) := by decide +kernel
theorem dX0_isOn_5 : decode cX0_isOn 5 = .ok (.if_icmp .ne 15, 3) := by decide +kernel
theorem dX0_isOn_8 : decode cX0_isOn 8 = .ok (.aload_n 0, 1) := by decide +kernel
theorem dX0_isOn_9 : decode cX0_isOn 9 = .ok (.getfield 30, 3) := by decide +kernel
theorem dX0_isOn_12 : decode cX0_isOn 12 = .ok (.iload_n 1, 1) := by decide +kernel
theorem dX0_isOn_13 : decode cX0_isOn 13 = .ok (.if_icmp .ne 7, 3) := by decide +kernel
theorem dX0_isOn_16 : decode cX0_isOn 16 = .ok (.iconst 1, 1) := by decide +kernel
theorem dX0_isOn_17 : decode cX0_isOn 17 = .ok (.goto 4, 3) := by decide +kernel
theorem dX0_isOn_20 : decode cX0_isOn 20 = .ok (.iconst 0, 1) := by decide +kernel
theorem dX0_isOn_21 : decode cX0_isOn 21 = .ok (.ireturn, 1) := by decide +kernel
theorem dX0_standsWhere_0 : decode cX0_standsWhere 0 = .ok (.aload_n 0, 1) := by decide +kernel
theorem dX0_standsWhere_1 : decode cX0_standsWhere 1 = .ok (.getfield 30, 3) := by decide +kernel
theorem dX0_standsWhere_4 : decode cX0_standsWhere 4 = .ok (.aload_n 1, 1) := by decide +kernel
theorem dX0_standsWhere_5 : decode cX0_standsWhere 5 = .ok (.getfield 30, 3) := by decide +kernel
theorem dX0_standsWhere_8 : decode cX0_standsWhere 8 = .ok (.if_icmp .ne 18, 3) := by decide +kernel
theorem dX0_standsWhere_11 : decode cX0_standsWhere 11 = .ok (.aload_n 0, 1) := by decide +kernel
theorem dX0_standsWhere_12 : decode cX0_standsWhere 12 = .ok (.getfield 33, 3) := by decide +kernel
theorem dX0_standsWhere_15 : decode cX0_standsWhere 15 = .ok (.aload_n 1, 1) := by decide +kernel
theorem dX0_standsWhere_16 : decode cX0_standsWhere 16 = .ok (.getfield 33, 3) := by decide +kernel
theorem dX0_standsWhere_19 : decode cX0_standsWhere 19 = .ok (.if_icmp .ne 7, 3) := by decide +kernel
theorem dX0_standsWhere_22 : decode cX0_standsWhere 22 = .ok (.iconst 1, 1) := by decide +kernel
theorem dX0_standsWhere_23 : decode cX0_standsWhere 23 = .ok (.goto 4, 3) := by decide +kernel
theorem dX0_standsWhere_26 : decode cX0_standsWhere 26 = .ok (.iconst 0, 1) := by decide +kernel
theorem dX0_standsWhere_27 : decode cX0_standsWhere 27 = .ok (.ireturn, 1) := by decide +kernel
theorem dX0_conflictsWith_0 : decode cX0_conflictsWith 0 = .ok (.aload_n 0, 1) := by decide +kernel
theorem dX0_conflictsWith_1 : decode cX0_conflictsWith 1 = .ok (.getfield 30, 3) := by decide +kernel
theorem dX0_conflictsWith_4 : decode cX0_conflictsWith 4 = .ok (.iload_n 2, 1) := by decide +kernel
theorem dX0_conflictsWith_5 : decode cX0_conflictsWith 5 = .ok (.if_icmp .eq 25, 3) := by decide +kernel
theorem dX0_conflictsWith_8 : decode cX0_conflictsWith 8 = .ok (.aload_n 0, 1) := by decide +kernel
theorem dX0_conflictsWith_9 : decode cX0_conflictsWith 9 = .ok (.getfield 9, 3) := by decide +kernel
theorem dX0_conflictsWith_12 : decode cX0_conflictsWith 12 = .ok (.aload_n 1, 1) := by decide +kernel
theorem dX0_conflictsWith_13 : decode cX0_conflictsWith 13 = .ok (.getfield 9, 3) := by decide +kernel
theorem dX0_conflictsWith_16 : decode cX0_conflictsWith 16 = .ok (.if_icmp .eq 14, 3) := by decide +kernel
theorem dX0_conflictsWith_19 : decode cX0_conflictsWith 19 = .ok (.aload_n 0, 1) := by decide +kernel
theorem dX0_conflictsWith_20 : decode cX0_conflictsWith 20 = .ok (.getfield 15, 3) := by decide +kernel
theorem dX0_conflictsWith_23 : decode cX0_conflictsWith 23 = .ok (.aload_n 1, 1) := by decide +kernel
theorem dX0_conflictsWith_24 : decode cX0_conflictsWith 24 = .ok (.getfield 15, 3) := by decide +kernel
theorem dX0_conflictsWith_27 : decode cX0_conflictsWith 27 = .ok (.if_icmp .ne 7, 3) := by decide +kernel
theorem dX0_conflictsWith_30 : decode cX0_conflictsWith 30 = .ok (.iconst 1, 1) := by decide +kernel
theorem dX0_conflictsWith_31 : decode cX0_conflictsWith 31 = .ok (.goto 4, 3) := by decide +kernel
theorem dX0_conflictsWith_34 : decode cX0_conflictsWith 34 = .ok (.iconst 0, 1) := by decide +kernel
theorem dX0_conflictsWith_35 : decode cX0_conflictsWith 35 = .ok (.ireturn, 1) := by decide +kernel
theorem dX1_init_0 : decode cX1_init 0 = .ok (.aload_n 0, 1) := by decide +kernel
theorem dX1_init_1 : decode cX1_init 1 = .ok (.invokespecial 3, 3) := by decide +kernel
theorem dX1_init_4 : decode cX1_init 4 = .ok (.aload_n 0, 1) := by decide +kernel
theorem dX1_init_5 : decode cX1_init 5 = .ok (.bipush 10, 2) := by decide +kernel
theorem dX1_init_7 : decode cX1_init 7 = .ok (.anewarray 9, 3) := by decide +kernel
theorem dX1_init_10 : decode cX1_init 10 = .ok (.putfield 11, 3) := by decide +kernel
theorem dX1_init_13 : decode cX1_init 13 = .ok (.iconst 0, 1) := by decide +kernel
theorem dX1_init_14 : decode cX1_init 14 = .ok (.istore_n 1, 1) := by decide +kernel
theorem dX1_init_15 : decode cX1_init 15 = .ok (.iload_n 1, 1) := by decide +kernel
theorem dX1_init_16 : decode cX1_init 16 = .ok (.bipush 10, 2) := by decide +kernel
theorem dX1_init_18 : decode cX1_init 18 = .ok (.if_icmp .ge 22, 3) := by decide +kernel
theorem dX1_init_21 : decode cX1_init 21 = .ok (.aload_n 0, 1) := by decide +kernel
theorem dX1_init_22 : decode cX1_init 22 = .ok (.getfield 11, 3) := by decide +kernel
theorem dX1_init_25 : decode cX1_init 25 = .ok (.iload_n 1, 1) := by decide +kernel
theorem dX1_init_26 : decode cX1_init 26 = .ok (.new 9, 3) := by decide +kernel
theorem dX1_init_29 : decode cX1_init 29 = .ok (.dup, 1) := by decide +kernel
theorem dX1_init_30 : decode cX1_init 30 = .ok (.invokespecial 17, 3) := by decide +kernel
theorem dX1_init_33 : decode cX1_init 33 = .ok (.aastore, 1) := by decide +kernel
theorem dX1_init_34 : decode cX1_init 34 = .ok (.iinc 1 1, 3) := by decide +kernel
theorem dX1_init_37 : decode cX1_init 37 = .ok (.goto (-22), 3) := by decide +kernel
theorem dX1_init_40 : decode cX1_init 40 = .ok (.return_, 1) := by decide +kernel
theorem dX1_keep_0 : decode cX1_keep 0 = .ok (.aload_n 0, 1) := by decide +kernel
theorem dX1_keep_1 : decode cX1_keep 1 = .ok (.getfield 18, 3) := by decide +kernel
theorem dX1_keep_4 : decode cX1_keep 4 = .ok (.bipush 10, 2) := by decide +kernel
theorem dX1_keep_6 : decode cX1_keep 6 = .ok (.if_icmp .lt 7, 3) := by decide +kernel
theorem dX1_keep_9 : decode cX1_keep 9 = .ok (.aload_n 0, 1) := by decide +kernel
theorem dX1_keep_10 : decode cX1_keep 10 = .ok (.invokevirtual 22, 3) := by decide +kernel
theorem dX1_keep_13 : decode cX1_keep 13 = .ok (.aload_n 0, 1) := by decide +kernel
theorem dX1_keep_14 : decode cX1_keep 14 = .ok (.getfield 11, 3) := by decide +kernel
theorem dX1_keep_17 : decode cX1_keep 17 = .ok (.aload_n 0, 1) := by decide +kernel
theorem dX1_keep_18 : decode cX1_keep 18 = .ok (.getfield 18, 3) := by decide +kernel
theorem dX1_keep_21 : decode cX1_keep 21 = .ok (.aaload, 1) := by decide +kernel
theorem dX1_keep_22 : decode cX1_keep 22 = .ok (.aload_n 1, 1) := by decide +kernel
theorem dX1_keep_23 : decode cX1_keep 23 = .ok (.invokevirtual 25, 3) := by decide +kernel
theorem dX1_keep_26 : decode cX1_keep 26 = .ok (.aload_n 0, 1) := by decide +kernel
theorem dX1_keep_27 : decode cX1_keep 27 = .ok (.dup, 1) := by decide +kernel
theorem dX1_keep_28 : decode cX1_keep 28 = .ok (.getfield 18, 3) := by decide +kernel
theorem dX1_keep_31 : decode cX1_keep 31 = .ok (.iconst 1, 1) := by decide +kernel
theorem dX1_keep_32 : decode cX1_keep 32 = .ok (.iadd, 1) := by decide +kernel
theorem dX1_keep_33 : decode cX1_keep 33 = .ok (.putfield 18, 3) := by decide +kernel
theorem dX1_keep_36 : decode cX1_keep 36 = .ok (.return_, 1) := by decide +kernel
theorem dX1_dropOldest_0 : decode cX1_dropOldest 0 = .ok (.aload_n 0, 1) := by decide +kernel
theorem dX1_dropOldest_1 : decode cX1_dropOldest 1 = .ok (.getfield 11, 3) := by decide +kernel
theorem dX1_dropOldest_4 : decode cX1_dropOldest 4 = .ok (.iconst 0, 1) := by decide +kernel
theorem dX1_dropOldest_5 : decode cX1_dropOldest 5 = .ok (.aaload, 1) := by decide +kernel
theorem dX1_dropOldest_6 : decode cX1_dropOldest 6 = .ok (.astore_n 1, 1) := by decide +kernel
theorem dX1_dropOldest_7 : decode cX1_dropOldest 7 = .ok (.iconst 1, 1) := by decide +kernel
theorem dX1_dropOldest_8 : decode cX1_dropOldest 8 = .ok (.istore_n 2, 1) := by decide +kernel
theorem dX1_dropOldest_9 : decode cX1_dropOldest 9 = .ok (.iload_n 2, 1) := by decide +kernel
theorem dX1_dropOldest_10 : decode cX1_dropOldest 10 = .ok (.bipush 10, 2) := by decide +kernel
theorem dX1_dropOldest_12 : decode cX1_dropOldest 12 = .ok (.if_icmp .ge 23, 3) := by decide +kernel
theorem dX1_dropOldest_15 : decode cX1_dropOldest 15 = .ok (.aload_n 0, 1) := by decide +kernel
theorem dX1_dropOldest_16 : decode cX1_dropOldest 16 = .ok (.getfield 11, 3) := by decide +kernel
theorem dX1_dropOldest_19 : decode cX1_dropOldest 19 = .ok (.iload_n 2, 1) := by decide +kernel
theorem dX1_dropOldest_20 : decode cX1_dropOldest 20 = .ok (.iconst 1, 1) := by decide +kernel
theorem dX1_dropOldest_21 : decode cX1_dropOldest 21 = .ok (.isub, 1) := by decide +kernel
theorem dX1_dropOldest_22 : decode cX1_dropOldest 22 = .ok (.aload_n 0, 1) := by decide +kernel
theorem dX1_dropOldest_23 : decode cX1_dropOldest 23 = .ok (.getfield 11, 3) := by decide +kernel
theorem dX1_dropOldest_26 : decode cX1_dropOldest 26 = .ok (.iload_n 2, 1) := by decide +kernel
theorem dX1_dropOldest_27 : decode cX1_dropOldest 27 = .ok (.aaload, 1) := by decide +kernel
theorem dX1_dropOldest_28 : decode cX1_dropOldest 28 = .ok (.aastore, 1) := by decide +kernel
theorem dX1_dropOldest_29 : decode cX1_dropOldest 29 = .ok (.iinc 2 1, 3) := by decide +kernel
theorem dX1_dropOldest_32 : decode cX1_dropOldest 32 = .ok (.goto (-23), 3) := by decide +kernel
theorem dX1_dropOldest_35 : decode cX1_dropOldest 35 = .ok (.aload_n 0, 1) := by decide +kernel
theorem dX1_dropOldest_36 : decode cX1_dropOldest 36 = .ok (.getfield 11, 3) := by decide +kernel
theorem dX1_dropOldest_39 : decode cX1_dropOldest 39 = .ok (.bipush 9, 2) := by decide +kernel
theorem dX1_dropOldest_41 : decode cX1_dropOldest 41 = .ok (.aload_n 1, 1) := by decide +kernel
theorem dX1_dropOldest_42 : decode cX1_dropOldest 42 = .ok (.aastore, 1) := by decide +kernel
theorem dX1_dropOldest_43 : decode cX1_dropOldest 43 = .ok (.aload_n 0, 1) := by decide +kernel
theorem dX1_dropOldest_44 : decode cX1_dropOldest 44 = .ok (.bipush 9, 2) := by decide +kernel
theorem dX1_dropOldest_46 : decode cX1_dropOldest 46 = .ok (.putfield 18, 3) := by decide +kernel
theorem dX1_dropOldest_49 : decode cX1_dropOldest 49 = .ok (.return_, 1) := by decide +kernel
theorem dX2_init_0 : decode cX2_init 0 = .ok (.aload_n 0, 1) := by decide +kernel
theorem dX2_init_1 : decode cX2_init 1 = .ok (.invokespecial 3, 3) := by decide +kernel
theorem dX2_init_4 : decode cX2_init 4 = .ok (.aload_n 0, 1) := by decide +kernel
theorem dX2_init_5 : decode cX2_init 5 = .ok (.new 9, 3) := by decide +kernel
theorem dX2_init_8 : decode cX2_init 8 = .ok (.dup, 1) := by decide +kernel
theorem dX2_init_9 : decode cX2_init 9 = .ok (.invokespecial 11, 3) := by decide +kernel
theorem dX2_init_12 : decode cX2_init 12 = .ok (.putfield 12, 3) := by decide +kernel
theorem dX2_init_15 : decode cX2_init 15 = .ok (.aload_n 0, 1) := by decide +kernel
theorem dX2_init_16 : decode cX2_init 16 = .ok (.new 18, 3) := by decide +kernel
theorem dX2_init_19 : decode cX2_init 19 = .ok (.dup, 1) := by decide +kernel
theorem dX2_init_20 : decode cX2_init 20 = .ok (.invokespecial 20, 3) := by decide +kernel
theorem dX2_init_23 : decode cX2_init 23 = .ok (.putfield 21, 3) := by decide +kernel
theorem dX2_init_26 : decode cX2_init 26 = .ok (.aload_n 0, 1) := by decide +kernel
theorem dX2_init_27 : decode cX2_init 27 = .ok (.iconst (-1), 1) := by decide +kernel
theorem dX2_init_28 : decode cX2_init 28 = .ok (.putfield 25, 3) := by decide +kernel
theorem dX2_init_31 : decode cX2_init 31 = .ok (.return_, 1) := by decide +kernel
theorem dX2_append_0 : decode cX2_append 0 = .ok (.aload_n 0, 1) := by decide +kernel
theorem dX2_append_1 : decode cX2_append 1 = .ok (.getfield 12, 3) := by decide +kernel
theorem dX2_append_4 : decode cX2_append 4 = .ok (.getfield 29, 3) := by decide +kernel
theorem dX2_append_7 : decode cX2_append 7 = .ok (.bipush 20, 2) := by decide +kernel
theorem dX2_append_9 : decode cX2_append 9 = .ok (.iadd, 1) := by decide +kernel
theorem dX2_append_10 : decode cX2_append 10 = .ok (.sipush 1000, 3) := by decide +kernel
theorem dX2_append_13 : decode cX2_append 13 = .ok (.if_icmp .le 6, 3) := by decide +kernel
theorem dX2_append_16 : decode cX2_append 16 = .ok (.bipush (-3), 2) := by decide +kernel
theorem dX2_append_18 : decode cX2_append 18 = .ok (.ireturn, 1) := by decide +kernel
theorem dX2_append_19 : decode cX2_append 19 = .ok (.aload_n 0, 1) := by decide +kernel
theorem dX2_append_20 : decode cX2_append 20 = .ok (.getfield 12, 3) := by decide +kernel
theorem dX2_append_23 : decode cX2_append 23 = .ok (.iload_n 1, 1) := by decide +kernel
theorem dX2_append_24 : decode cX2_append 24 = .ok (.invokevirtual 32, 3) := by decide +kernel
theorem dX2_append_27 : decode cX2_append 27 = .ok (.aload_n 0, 1) := by decide +kernel
theorem dX2_append_28 : decode cX2_append 28 = .ok (.getfield 12, 3) := by decide +kernel
theorem dX2_append_31 : decode cX2_append 31 = .ok (.iload_n 2, 1) := by decide +kernel
theorem dX2_append_32 : decode cX2_append 32 = .ok (.invokevirtual 32, 3) := by decide +kernel
theorem dX2_append_35 : decode cX2_append 35 = .ok (.aload_n 0, 1) := by decide +kernel
theorem dX2_append_36 : decode cX2_append 36 = .ok (.getfield 12, 3) := by decide +kernel
theorem dX2_append_39 : decode cX2_append 39 = .ok (.iload_n 3, 1) := by decide +kernel
theorem dX2_append_40 : decode cX2_append 40 = .ok (.invokevirtual 32, 3) := by decide +kernel
theorem dX2_append_43 : decode cX2_append 43 = .ok (.aload_n 0, 1) := by decide +kernel
theorem dX2_append_44 : decode cX2_append 44 = .ok (.getfield 12, 3) := by decide +kernel
theorem dX2_append_47 : decode cX2_append 47 = .ok (.iload 4, 2) := by decide +kernel
theorem dX2_append_49 : decode cX2_append 49 = .ok (.invokevirtual 32, 3) := by decide +kernel
theorem dX2_append_52 : decode cX2_append 52 = .ok (.aload_n 0, 1) := by decide +kernel
theorem dX2_append_53 : decode cX2_append 53 = .ok (.getfield 12, 3) := by decide +kernel
theorem dX2_append_56 : decode cX2_append 56 = .ok (.iload 5, 2) := by decide +kernel
theorem dX2_append_58 : decode cX2_append 58 = .ok (.invokevirtual 32, 3) := by decide +kernel
theorem dX2_append_61 : decode cX2_append 61 = .ok (.aload_n 0, 1) := by decide +kernel
theorem dX2_append_62 : decode cX2_append 62 = .ok (.getfield 12, 3) := by decide +kernel
theorem dX2_append_65 : decode cX2_append 65 = .ok (.getfield 29, 3) := by decide +kernel
theorem dX2_append_68 : decode cX2_append 68 = .ok (.ireturn, 1) := by decide +kernel
theorem dX2_readText_0 : decode cX2_readText 0 = .ok (.aload_n 0, 1) := by decide +kernel
theorem dX2_readText_1 : decode cX2_readText 1 = .ok (.getfield 21, 3) := by decide +kernel
theorem dX2_readText_4 : decode cX2_readText 4 = .ok (.invokevirtual 36, 3) := by decide +kernel
theorem dX2_readText_7 : decode cX2_readText 7 = .ok (.aload_n 0, 1) := by decide +kernel
theorem dX2_readText_8 : decode cX2_readText 8 = .ok (.iconst 0, 1) := by decide +kernel
theorem dX2_readText_9 : decode cX2_readText 9 = .ok (.putfield 39, 3) := by decide +kernel
theorem dX2_readText_12 : decode cX2_readText 12 = .ok (.aload_n 0, 1) := by decide +kernel
theorem dX2_readText_13 : decode cX2_readText 13 = .ok (.iconst (-1), 1) := by decide +kernel
theorem dX2_readText_14 : decode cX2_readText 14 = .ok (.putfield 25, 3) := by decide +kernel
theorem dX2_readText_17 : decode cX2_readText 17 = .ok (.aload_n 0, 1) := by decide +kernel
theorem dX2_readText_18 : decode cX2_readText 18 = .ok (.iconst 0, 1) := by decide +kernel
theorem dX2_readText_19 : decode cX2_readText 19 = .ok (.putfield 42, 3) := by decide +kernel
theorem dX2_readText_22 : decode cX2_readText 22 = .ok (.aload_n 0, 1) := by decide +kernel
theorem dX2_readText_23 : decode cX2_readText 23 = .ok (.iconst 0, 1) := by decide +kernel
theorem dX2_readText_24 : decode cX2_readText 24 = .ok (.putfield 46, 3) := by decide +kernel
theorem dX2_readText_27 : decode cX2_readText 27 = .ok (.aload_n 0, 1) := by decide +kernel
theorem dX2_readText_28 : decode cX2_readText 28 = .ok (.getfield 12, 3) := by decide +kernel
theorem dX2_readText_31 : decode cX2_readText 31 = .ok (.iload_n 1, 1) := by decide +kernel
theorem dX2_readText_32 : decode cX2_readText 32 = .ok (.invokevirtual 49, 3) := by decide +kernel
theorem dX2_readText_35 : decode cX2_readText 35 = .ok (.iconst 0, 1) := by decide +kernel
theorem dX2_readText_36 : decode cX2_readText 36 = .ok (.istore_n 2, 1) := by decide +kernel
theorem dX2_readText_37 : decode cX2_readText 37 = .ok (.iload_n 2, 1) := by decide +kernel
theorem dX2_readText_38 : decode cX2_readText 38 = .ok (.sipush 1000, 3) := by decide +kernel
theorem dX2_readText_41 : decode cX2_readText 41 = .ok (.if_icmp .ge 127, 3) := by decide +kernel
theorem dX2_readText_44 : decode cX2_readText 44 = .ok (.aload_n 0, 1) := by decide +kernel
theorem dX2_readText_45 : decode cX2_readText 45 = .ok (.getfield 39, 3) := by decide +kernel
theorem dX2_readText_48 : decode cX2_readText 48 = .ok (.ifCond .ne 120, 3) := by decide +kernel
theorem dX2_readText_51 : decode cX2_readText 51 = .ok (.aload_n 0, 1) := by decide +kernel
theorem dX2_readText_52 : decode cX2_readText 52 = .ok (.getfield 12, 3) := by decide +kernel
theorem dX2_readText_55 : decode cX2_readText 55 = .ok (.getfield 52, 3) := by decide +kernel
theorem dX2_readText_58 : decode cX2_readText 58 = .ok (.ifCond .eq 110, 3) := by decide +kernel
theorem dX2_readText_61 : decode cX2_readText 61 = .ok (.aload_n 0, 1) := by decide +kernel
theorem dX2_readText_62 : decode cX2_readText 62 = .ok (.getfield 12, 3) := by decide +kernel
theorem dX2_readText_65 : decode cX2_readText 65 = .ok (.ldc 55, 2) := by decide +kernel
theorem dX2_readText_67 : decode cX2_readText 67 = .ok (.invokevirtual 57, 3) := by decide +kernel
theorem dX2_readText_70 : decode cX2_readText 70 = .ok (.ifCond .eq 10, 3) := by decide +kernel
theorem dX2_readText_73 : decode cX2_readText 73 = .ok (.aload_n 0, 1) := by decide +kernel
theorem dX2_readText_74 : decode cX2_readText 74 = .ok (.invokevirtual 61, 3) := by decide +kernel
theorem dX2_readText_77 : decode cX2_readText 77 = .ok (.goto 85, 3) := by decide +kernel
theorem dX2_readText_80 : decode cX2_readText 80 = .ok (.aload_n 0, 1) := by decide +kernel
theorem dX2_readText_81 : decode cX2_readText 81 = .ok (.getfield 12, 3) := by decide +kernel
theorem dX2_readText_84 : decode cX2_readText 84 = .ok (.ldc 64, 2) := by decide +kernel
theorem dX2_readText_86 : decode cX2_readText 86 = .ok (.invokevirtual 57, 3) := by decide +kernel
theorem dX2_readText_89 : decode cX2_readText 89 = .ok (.ifCond .eq 10, 3) := by decide +kernel
theorem dX2_readText_92 : decode cX2_readText 92 = .ok (.aload_n 0, 1) := by decide +kernel
theorem dX2_readText_93 : decode cX2_readText 93 = .ok (.invokevirtual 66, 3) := by decide +kernel
theorem dX2_readText_96 : decode cX2_readText 96 = .ok (.goto 66, 3) := by decide +kernel
theorem dX2_readText_99 : decode cX2_readText 99 = .ok (.aload_n 0, 1) := by decide +kernel
theorem dX2_readText_100 : decode cX2_readText 100 = .ok (.getfield 12, 3) := by decide +kernel
theorem dX2_readText_103 : decode cX2_readText 103 = .ok (.ldc 69, 2) := by decide +kernel
theorem dX2_readText_105 : decode cX2_readText 105 = .ok (.invokevirtual 57, 3) := by decide +kernel
theorem dX2_readText_108 : decode cX2_readText 108 = .ok (.ifCond .eq 10, 3) := by decide +kernel
theorem dX2_readText_111 : decode cX2_readText 111 = .ok (.aload_n 0, 1) := by decide +kernel
theorem dX2_readText_112 : decode cX2_readText 112 = .ok (.invokevirtual 71, 3) := by decide +kernel
theorem dX2_readText_115 : decode cX2_readText 115 = .ok (.goto 47, 3) := by decide +kernel
theorem dX2_readText_118 : decode cX2_readText 118 = .ok (.aload_n 0, 1) := by decide +kernel
theorem dX2_readText_119 : decode cX2_readText 119 = .ok (.getfield 12, 3) := by decide +kernel
theorem dX2_readText_122 : decode cX2_readText 122 = .ok (.ldc 74, 2) := by decide +kernel
theorem dX2_readText_124 : decode cX2_readText 124 = .ok (.invokevirtual 57, 3) := by decide +kernel
theorem dX2_readText_127 : decode cX2_readText 127 = .ok (.ifCond .eq 10, 3) := by decide +kernel
theorem dX2_readText_130 : decode cX2_readText 130 = .ok (.aload_n 0, 1) := by decide +kernel
theorem dX2_readText_131 : decode cX2_readText 131 = .ok (.invokevirtual 76, 3) := by decide +kernel
theorem dX2_readText_134 : decode cX2_readText 134 = .ok (.goto 28, 3) := by decide +kernel
theorem dX2_readText_137 : decode cX2_readText 137 = .ok (.aload_n 0, 1) := by decide +kernel
theorem dX2_readText_138 : decode cX2_readText 138 = .ok (.getfield 12, 3) := by decide +kernel
theorem dX2_readText_141 : decode cX2_readText 141 = .ok (.ldc 79, 2) := by decide +kernel
theorem dX2_readText_143 : decode cX2_readText 143 = .ok (.invokevirtual 57, 3) := by decide +kernel
theorem dX2_readText_146 : decode cX2_readText 146 = .ok (.ifCond .eq 10, 3) := by decide +kernel
theorem dX2_readText_149 : decode cX2_readText 149 = .ok (.aload_n 0, 1) := by decide +kernel
theorem dX2_readText_150 : decode cX2_readText 150 = .ok (.invokevirtual 81, 3) := by decide +kernel
theorem dX2_readText_153 : decode cX2_readText 153 = .ok (.goto 9, 3) := by decide +kernel
theorem dX2_readText_156 : decode cX2_readText 156 = .ok (.aload_n 0, 1) := by decide +kernel
theorem dX2_readText_157 : decode cX2_readText 157 = .ok (.bipush (-11), 2) := by decide +kernel
theorem dX2_readText_159 : decode cX2_readText 159 = .ok (.invokevirtual 84, 3) := by decide +kernel
theorem dX2_readText_162 : decode cX2_readText 162 = .ok (.iinc 2 1, 3) := by decide +kernel
theorem dX2_readText_165 : decode cX2_readText 165 = .ok (.goto (-128), 3) := by decide +kernel
theorem dX2_readText_168 : decode cX2_readText 168 = .ok (.aload_n 0, 1) := by decide +kernel
theorem dX2_readText_169 : decode cX2_readText 169 = .ok (.getfield 12, 3) := by decide +kernel
theorem dX2_readText_172 : decode cX2_readText 172 = .ok (.iconst 0, 1) := by decide +kernel
theorem dX2_readText_173 : decode cX2_readText 173 = .ok (.putfield 29, 3) := by decide +kernel
theorem dX2_readText_176 : decode cX2_readText 176 = .ok (.aload_n 0, 1) := by decide +kernel
theorem dX2_readText_177 : decode cX2_readText 177 = .ok (.getfield 39, 3) := by decide +kernel
theorem dX2_readText_180 : decode cX2_readText 180 = .ok (.ifCond .ne 7, 3) := by decide +kernel
theorem dX2_readText_183 : decode cX2_readText 183 = .ok (.iload_n 2, 1) := by decide +kernel
theorem dX2_readText_184 : decode cX2_readText 184 = .ok (.goto 7, 3) := by decide +kernel
theorem dX2_readText_187 : decode cX2_readText 187 = .ok (.aload_n 0, 1) := by decide +kernel
theorem dX2_readText_188 : decode cX2_readText 188 = .ok (.getfield 39, 3) := by decide +kernel
theorem dX2_readText_191 : decode cX2_readText 191 = .ok (.ireturn, 1) := by decide +kernel
theorem dX2_readCarriers_0 : decode cX2_readCarriers 0 = .ok (.aload_n 0, 1) := by decide +kernel
theorem dX2_readCarriers_1 : decode cX2_readCarriers 1 = .ok (.getfield 42, 3) := by decide +kernel
theorem dX2_readCarriers_4 : decode cX2_readCarriers 4 = .ok (.ifCond .eq 12, 3) := by decide +kernel
theorem dX2_readCarriers_7 : decode cX2_readCarriers 7 = .ok (.aload_n 0, 1) := by decide +kernel
theorem dX2_readCarriers_8 : decode cX2_readCarriers 8 = .ok (.bipush (-14), 2) := by decide +kernel
theorem dX2_readCarriers_10 : decode cX2_readCarriers 10 = .ok (.invokevirtual 84, 3) := by decide +kernel
theorem dX2_readCarriers_13 : decode cX2_readCarriers 13 = .ok (.goto 19, 3) := by decide +kernel
theorem dX2_readCarriers_16 : decode cX2_readCarriers 16 = .ok (.aload_n 0, 1) := by decide +kernel
theorem dX2_readCarriers_17 : decode cX2_readCarriers 17 = .ok (.getfield 21, 3) := by decide +kernel
theorem dX2_readCarriers_20 : decode cX2_readCarriers 20 = .ok (.getfield 87, 3) := by decide +kernel
theorem dX2_readCarriers_23 : decode cX2_readCarriers 23 = .ok (.ifCond .le 9, 3) := by decide +kernel
theorem dX2_readCarriers_26 : decode cX2_readCarriers 26 = .ok (.aload_n 0, 1) := by decide +kernel
theorem dX2_readCarriers_27 : decode cX2_readCarriers 27 = .ok (.bipush (-15), 2) := by decide +kernel
theorem dX2_readCarriers_29 : decode cX2_readCarriers 29 = .ok (.invokevirtual 84, 3) := by decide +kernel
theorem dX2_readCarriers_32 : decode cX2_readCarriers 32 = .ok (.aload_n 0, 1) := by decide +kernel
theorem dX2_readCarriers_33 : decode cX2_readCarriers 33 = .ok (.invokevirtual 90, 3) := by decide +kernel
theorem dX2_readCarriers_36 : decode cX2_readCarriers 36 = .ok (.aload_n 0, 1) := by decide +kernel
theorem dX2_readCarriers_37 : decode cX2_readCarriers 37 = .ok (.iconst 1, 1) := by decide +kernel
theorem dX2_readCarriers_38 : decode cX2_readCarriers 38 = .ok (.iconst 4, 1) := by decide +kernel
theorem dX2_readCarriers_39 : decode cX2_readCarriers 39 = .ok (.invokevirtual 93, 3) := by decide +kernel
theorem dX2_readCarriers_42 : decode cX2_readCarriers 42 = .ok (.istore_n 1, 1) := by decide +kernel
theorem dX2_readCarriers_43 : decode cX2_readCarriers 43 = .ok (.aload_n 0, 1) := by decide +kernel
theorem dX2_readCarriers_44 : decode cX2_readCarriers 44 = .ok (.invokevirtual 97, 3) := by decide +kernel
theorem dX2_readCarriers_47 : decode cX2_readCarriers 47 = .ok (.aload_n 0, 1) := by decide +kernel
theorem dX2_readCarriers_48 : decode cX2_readCarriers 48 = .ok (.getfield 39, 3) := by decide +kernel
theorem dX2_readCarriers_51 : decode cX2_readCarriers 51 = .ok (.ifCond .ne 16, 3) := by decide +kernel
theorem dX2_readCarriers_54 : decode cX2_readCarriers 54 = .ok (.aload_n 0, 1) := by decide +kernel
theorem dX2_readCarriers_55 : decode cX2_readCarriers 55 = .ok (.iconst 1, 1) := by decide +kernel
theorem dX2_readCarriers_56 : decode cX2_readCarriers 56 = .ok (.putfield 42, 3) := by decide +kernel
theorem dX2_readCarriers_59 : decode cX2_readCarriers 59 = .ok (.aload_n 0, 1) := by decide +kernel
theorem dX2_readCarriers_60 : decode cX2_readCarriers 60 = .ok (.getfield 21, 3) := by decide +kernel
theorem dX2_readCarriers_63 : decode cX2_readCarriers 63 = .ok (.iload_n 1, 1) := by decide +kernel
theorem dX2_readCarriers_64 : decode cX2_readCarriers 64 = .ok (.putfield 100, 3) := by decide +kernel
theorem dX2_readCarriers_67 : decode cX2_readCarriers 67 = .ok (.return_, 1) := by decide +kernel
theorem dX2_readStation_0 : decode cX2_readStation 0 = .ok (.aload_n 0, 1) := by decide +kernel
theorem dX2_readStation_1 : decode cX2_readStation 1 = .ok (.getfield 21, 3) := by decide +kernel
theorem dX2_readStation_4 : decode cX2_readStation 4 = .ok (.getfield 102, 3) := by decide +kernel
theorem dX2_readStation_7 : decode cX2_readStation 7 = .ok (.bipush 6, 2) := by decide +kernel
theorem dX2_readStation_9 : decode cX2_readStation 9 = .ok (.if_icmp .lt 9, 3) := by decide +kernel
theorem dX2_readStation_12 : decode cX2_readStation 12 = .ok (.aload_n 0, 1) := by decide +kernel
theorem dX2_readStation_13 : decode cX2_readStation 13 = .ok (.bipush (-16), 2) := by decide +kernel
theorem dX2_readStation_15 : decode cX2_readStation 15 = .ok (.invokevirtual 84, 3) := by decide +kernel
theorem dX2_readStation_18 : decode cX2_readStation 18 = .ok (.aload_n 0, 1) := by decide +kernel
theorem dX2_readStation_19 : decode cX2_readStation 19 = .ok (.invokevirtual 90, 3) := by decide +kernel
theorem dX2_readStation_22 : decode cX2_readStation 22 = .ok (.aload_n 0, 1) := by decide +kernel
theorem dX2_readStation_23 : decode cX2_readStation 23 = .ok (.invokevirtual 105, 3) := by decide +kernel
theorem dX2_readStation_26 : decode cX2_readStation 26 = .ok (.istore_n 1, 1) := by decide +kernel
theorem dX2_readStation_27 : decode cX2_readStation 27 = .ok (.aload_n 0, 1) := by decide +kernel
theorem dX2_readStation_28 : decode cX2_readStation 28 = .ok (.iconst 0, 1) := by decide +kernel
theorem dX2_readStation_29 : decode cX2_readStation 29 = .ok (.sipush 5000, 3) := by decide +kernel
theorem dX2_readStation_32 : decode cX2_readStation 32 = .ok (.invokevirtual 93, 3) := by decide +kernel
theorem dX2_readStation_35 : decode cX2_readStation 35 = .ok (.istore_n 2, 1) := by decide +kernel
theorem dX2_readStation_36 : decode cX2_readStation 36 = .ok (.iconst 1, 1) := by decide +kernel
theorem dX2_readStation_37 : decode cX2_readStation 37 = .ok (.istore_n 3, 1) := by decide +kernel
theorem dX2_readStation_38 : decode cX2_readStation 38 = .ok (.aload_n 0, 1) := by decide +kernel
theorem dX2_readStation_39 : decode cX2_readStation 39 = .ok (.getfield 12, 3) := by decide +kernel
theorem dX2_readStation_42 : decode cX2_readStation 42 = .ok (.getfield 52, 3) := by decide +kernel
theorem dX2_readStation_45 : decode cX2_readStation 45 = .ok (.iconst 4, 1) := by decide +kernel
theorem dX2_readStation_46 : decode cX2_readStation 46 = .ok (.if_icmp .ne 9, 3) := by decide +kernel
theorem dX2_readStation_49 : decode cX2_readStation 49 = .ok (.iconst (-1), 1) := by decide +kernel
theorem dX2_readStation_50 : decode cX2_readStation 50 = .ok (.istore_n 3, 1) := by decide +kernel
theorem dX2_readStation_51 : decode cX2_readStation 51 = .ok (.aload_n 0, 1) := by decide +kernel
theorem dX2_readStation_52 : decode cX2_readStation 52 = .ok (.invokevirtual 90, 3) := by decide +kernel
theorem dX2_readStation_55 : decode cX2_readStation 55 = .ok (.iload_n 3, 1) := by decide +kernel
theorem dX2_readStation_56 : decode cX2_readStation 56 = .ok (.aload_n 0, 1) := by decide +kernel
theorem dX2_readStation_57 : decode cX2_readStation 57 = .ok (.iconst 0, 1) := by decide +kernel
theorem dX2_readStation_58 : decode cX2_readStation 58 = .ok (.bipush 50, 2) := by decide +kernel
theorem dX2_readStation_60 : decode cX2_readStation 60 = .ok (.invokevirtual 93, 3) := by decide +kernel
theorem dX2_readStation_63 : decode cX2_readStation 63 = .ok (.imul, 1) := by decide +kernel
theorem dX2_readStation_64 : decode cX2_readStation 64 = .ok (.istore 4, 2) := by decide +kernel
theorem dX2_readStation_66 : decode cX2_readStation 66 = .ok (.aload_n 0, 1) := by decide +kernel
theorem dX2_readStation_67 : decode cX2_readStation 67 = .ok (.iconst 0, 1) := by decide +kernel
theorem dX2_readStation_68 : decode cX2_readStation 68 = .ok (.sipush 999, 3) := by decide +kernel
theorem dX2_readStation_71 : decode cX2_readStation 71 = .ok (.invokevirtual 93, 3) := by decide +kernel
theorem dX2_readStation_74 : decode cX2_readStation 74 = .ok (.istore 5, 2) := by decide +kernel
theorem dX2_readStation_76 : decode cX2_readStation 76 = .ok (.aload_n 0, 1) := by decide +kernel
theorem dX2_readStation_77 : decode cX2_readStation 77 = .ok (.iload 5, 2) := by decide +kernel
theorem dX2_readStation_79 : decode cX2_readStation 79 = .ok (.sipush 999, 3) := by decide +kernel
theorem dX2_readStation_82 : decode cX2_readStation 82 = .ok (.invokevirtual 93, 3) := by decide +kernel
theorem dX2_readStation_85 : decode cX2_readStation 85 = .ok (.istore 6, 2) := by decide +kernel
theorem dX2_readStation_87 : decode cX2_readStation 87 = .ok (.aload_n 0, 1) := by decide +kernel
theorem dX2_readStation_88 : decode cX2_readStation 88 = .ok (.invokevirtual 97, 3) := by decide +kernel
theorem dX2_readStation_91 : decode cX2_readStation 91 = .ok (.aload_n 0, 1) := by decide +kernel
theorem dX2_readStation_92 : decode cX2_readStation 92 = .ok (.getfield 39, 3) := by decide +kernel
theorem dX2_readStation_95 : decode cX2_readStation 95 = .ok (.ifCond .ne 18, 3) := by decide +kernel
theorem dX2_readStation_98 : decode cX2_readStation 98 = .ok (.aload_n 0, 1) := by decide +kernel
theorem dX2_readStation_99 : decode cX2_readStation 99 = .ok (.getfield 21, 3) := by decide +kernel
theorem dX2_readStation_102 : decode cX2_readStation 102 = .ok (.iload_n 1, 1) := by decide +kernel
theorem dX2_readStation_103 : decode cX2_readStation 103 = .ok (.iload_n 2, 1) := by decide +kernel
theorem dX2_readStation_104 : decode cX2_readStation 104 = .ok (.iload 4, 2) := by decide +kernel
theorem dX2_readStation_106 : decode cX2_readStation 106 = .ok (.iload 5, 2) := by decide +kernel
theorem dX2_readStation_108 : decode cX2_readStation 108 = .ok (.iload 6, 2) := by decide +kernel
theorem dX2_readStation_110 : decode cX2_readStation 110 = .ok (.invokevirtual 109, 3) := by decide +kernel
theorem dX2_readStation_113 : decode cX2_readStation 113 = .ok (.return_, 1) := by decide +kernel
theorem dX2_readRain_0 : decode cX2_readRain 0 = .ok (.aload_n 0, 1) := by decide +kernel
theorem dX2_readRain_1 : decode cX2_readRain 1 = .ok (.getfield 21, 3) := by decide +kernel
theorem dX2_readRain_4 : decode cX2_readRain 4 = .ok (.getfield 113, 3) := by decide +kernel
theorem dX2_readRain_7 : decode cX2_readRain 7 = .ok (.bipush 8, 2) := by decide +kernel
theorem dX2_readRain_9 : decode cX2_readRain 9 = .ok (.if_icmp .lt 9, 3) := by decide +kernel
theorem dX2_readRain_12 : decode cX2_readRain 12 = .ok (.aload_n 0, 1) := by decide +kernel
theorem dX2_readRain_13 : decode cX2_readRain 13 = .ok (.bipush (-16), 2) := by decide +kernel
theorem dX2_readRain_15 : decode cX2_readRain 15 = .ok (.invokevirtual 84, 3) := by decide +kernel
theorem dX2_readRain_18 : decode cX2_readRain 18 = .ok (.aload_n 0, 1) := by decide +kernel
theorem dX2_readRain_19 : decode cX2_readRain 19 = .ok (.invokevirtual 90, 3) := by decide +kernel
theorem dX2_readRain_22 : decode cX2_readRain 22 = .ok (.aload_n 0, 1) := by decide +kernel
theorem dX2_readRain_23 : decode cX2_readRain 23 = .ok (.iconst (-1), 1) := by decide +kernel
theorem dX2_readRain_24 : decode cX2_readRain 24 = .ok (.invokevirtual 116, 3) := by decide +kernel
theorem dX2_readRain_27 : decode cX2_readRain 27 = .ok (.istore_n 1, 1) := by decide +kernel
theorem dX2_readRain_28 : decode cX2_readRain 28 = .ok (.aload_n 0, 1) := by decide +kernel
theorem dX2_readRain_29 : decode cX2_readRain 29 = .ok (.iconst 0, 1) := by decide +kernel
theorem dX2_readRain_30 : decode cX2_readRain 30 = .ok (.sipush 9999, 3) := by decide +kernel
theorem dX2_readRain_33 : decode cX2_readRain 33 = .ok (.invokevirtual 93, 3) := by decide +kernel
theorem dX2_readRain_36 : decode cX2_readRain 36 = .ok (.istore_n 2, 1) := by decide +kernel
theorem dX2_readRain_37 : decode cX2_readRain 37 = .ok (.aload_n 0, 1) := by decide +kernel
theorem dX2_readRain_38 : decode cX2_readRain 38 = .ok (.iload_n 2, 1) := by decide +kernel
theorem dX2_readRain_39 : decode cX2_readRain 39 = .ok (.sipush 9999, 3) := by decide +kernel
theorem dX2_readRain_42 : decode cX2_readRain 42 = .ok (.invokevirtual 93, 3) := by decide +kernel
theorem dX2_readRain_45 : decode cX2_readRain 45 = .ok (.istore_n 3, 1) := by decide +kernel
theorem dX2_readRain_46 : decode cX2_readRain 46 = .ok (.aload_n 0, 1) := by decide +kernel
theorem dX2_readRain_47 : decode cX2_readRain 47 = .ok (.iconst 1, 1) := by decide +kernel
theorem dX2_readRain_48 : decode cX2_readRain 48 = .ok (.sipush 400, 3) := by decide +kernel
theorem dX2_readRain_51 : decode cX2_readRain 51 = .ok (.invokevirtual 93, 3) := by decide +kernel
theorem dX2_readRain_54 : decode cX2_readRain 54 = .ok (.istore 4, 2) := by decide +kernel
theorem dX2_readRain_56 : decode cX2_readRain 56 = .ok (.aload_n 0, 1) := by decide +kernel
theorem dX2_readRain_57 : decode cX2_readRain 57 = .ok (.invokevirtual 97, 3) := by decide +kernel
theorem dX2_readRain_60 : decode cX2_readRain 60 = .ok (.aload_n 0, 1) := by decide +kernel
theorem dX2_readRain_61 : decode cX2_readRain 61 = .ok (.getfield 39, 3) := by decide +kernel
theorem dX2_readRain_64 : decode cX2_readRain 64 = .ok (.ifCond .ne 15, 3) := by decide +kernel
theorem dX2_readRain_67 : decode cX2_readRain 67 = .ok (.aload_n 0, 1) := by decide +kernel
theorem dX2_readRain_68 : decode cX2_readRain 68 = .ok (.getfield 21, 3) := by decide +kernel
theorem dX2_readRain_71 : decode cX2_readRain 71 = .ok (.iload_n 1, 1) := by decide +kernel
theorem dX2_readRain_72 : decode cX2_readRain 72 = .ok (.iload_n 2, 1) := by decide +kernel
theorem dX2_readRain_73 : decode cX2_readRain 73 = .ok (.iload_n 3, 1) := by decide +kernel
theorem dX2_readRain_74 : decode cX2_readRain 74 = .ok (.iload 4, 2) := by decide +kernel
theorem dX2_readRain_76 : decode cX2_readRain 76 = .ok (.invokevirtual 120, 3) := by decide +kernel
theorem dX2_readRain_79 : decode cX2_readRain 79 = .ok (.return_, 1) := by decide +kernel
theorem dX2_readCall_0 : decode cX2_readCall 0 = .ok (.aload_n 0, 1) := by decide +kernel
theorem dX2_readCall_1 : decode cX2_readCall 1 = .ok (.getfield 21, 3) := by decide +kernel
theorem dX2_readCall_4 : decode cX2_readCall 4 = .ok (.getfield 87, 3) := by decide +kernel
theorem dX2_readCall_7 : decode cX2_readCall 7 = .ok (.bipush 16, 2) := by decide +kernel
theorem dX2_readCall_9 : decode cX2_readCall 9 = .ok (.if_icmp .lt 9, 3) := by decide +kernel
theorem dX2_readCall_12 : decode cX2_readCall 12 = .ok (.aload_n 0, 1) := by decide +kernel
theorem dX2_readCall_13 : decode cX2_readCall 13 = .ok (.bipush (-16), 2) := by decide +kernel
theorem dX2_readCall_15 : decode cX2_readCall 15 = .ok (.invokevirtual 84, 3) := by decide +kernel
theorem dX2_readCall_18 : decode cX2_readCall 18 = .ok (.aload_n 0, 1) := by decide +kernel
theorem dX2_readCall_19 : decode cX2_readCall 19 = .ok (.invokevirtual 90, 3) := by decide +kernel
theorem dX2_readCall_22 : decode cX2_readCall 22 = .ok (.aload_n 0, 1) := by decide +kernel
theorem dX2_readCall_23 : decode cX2_readCall 23 = .ok (.iconst (-1), 1) := by decide +kernel
theorem dX2_readCall_24 : decode cX2_readCall 24 = .ok (.invokevirtual 116, 3) := by decide +kernel
theorem dX2_readCall_27 : decode cX2_readCall 27 = .ok (.istore_n 1, 1) := by decide +kernel
theorem dX2_readCall_28 : decode cX2_readCall 28 = .ok (.aload_n 0, 1) := by decide +kernel
theorem dX2_readCall_29 : decode cX2_readCall 29 = .ok (.iload_n 1, 1) := by decide +kernel
theorem dX2_readCall_30 : decode cX2_readCall 30 = .ok (.invokevirtual 116, 3) := by decide +kernel
theorem dX2_readCall_33 : decode cX2_readCall 33 = .ok (.istore_n 2, 1) := by decide +kernel
theorem dX2_readCall_34 : decode cX2_readCall 34 = .ok (.aload_n 0, 1) := by decide +kernel
theorem dX2_readCall_35 : decode cX2_readCall 35 = .ok (.iconst 0, 1) := by decide +kernel
theorem dX2_readCall_36 : decode cX2_readCall 36 = .ok (.bipush 9, 2) := by decide +kernel
theorem dX2_readCall_38 : decode cX2_readCall 38 = .ok (.invokevirtual 93, 3) := by decide +kernel
theorem dX2_readCall_41 : decode cX2_readCall 41 = .ok (.istore_n 3, 1) := by decide +kernel
theorem dX2_readCall_42 : decode cX2_readCall 42 = .ok (.aload_n 0, 1) := by decide +kernel
theorem dX2_readCall_43 : decode cX2_readCall 43 = .ok (.iconst 1, 1) := by decide +kernel
theorem dX2_readCall_44 : decode cX2_readCall 44 = .ok (.sipush 2000, 3) := by decide +kernel
theorem dX2_readCall_47 : decode cX2_readCall 47 = .ok (.invokevirtual 93, 3) := by decide +kernel
theorem dX2_readCall_50 : decode cX2_readCall 50 = .ok (.istore 4, 2) := by decide +kernel
theorem dX2_readCall_52 : decode cX2_readCall 52 = .ok (.aload_n 0, 1) := by decide +kernel
theorem dX2_readCall_53 : decode cX2_readCall 53 = .ok (.iconst 1, 1) := by decide +kernel
theorem dX2_readCall_54 : decode cX2_readCall 54 = .ok (.sipush 9999, 3) := by decide +kernel
theorem dX2_readCall_57 : decode cX2_readCall 57 = .ok (.invokevirtual 93, 3) := by decide +kernel
theorem dX2_readCall_60 : decode cX2_readCall 60 = .ok (.istore 5, 2) := by decide +kernel
theorem dX2_readCall_62 : decode cX2_readCall 62 = .ok (.aload_n 0, 1) := by decide +kernel
theorem dX2_readCall_63 : decode cX2_readCall 63 = .ok (.invokevirtual 97, 3) := by decide +kernel
theorem dX2_readCall_66 : decode cX2_readCall 66 = .ok (.aload_n 0, 1) := by decide +kernel
theorem dX2_readCall_67 : decode cX2_readCall 67 = .ok (.getfield 39, 3) := by decide +kernel
theorem dX2_readCall_70 : decode cX2_readCall 70 = .ok (.ifCond .ne 17, 3) := by decide +kernel
theorem dX2_readCall_73 : decode cX2_readCall 73 = .ok (.aload_n 0, 1) := by decide +kernel
theorem dX2_readCall_74 : decode cX2_readCall 74 = .ok (.getfield 21, 3) := by decide +kernel
theorem dX2_readCall_77 : decode cX2_readCall 77 = .ok (.iload_n 1, 1) := by decide +kernel
theorem dX2_readCall_78 : decode cX2_readCall 78 = .ok (.iload_n 2, 1) := by decide +kernel
theorem dX2_readCall_79 : decode cX2_readCall 79 = .ok (.iload_n 3, 1) := by decide +kernel
theorem dX2_readCall_80 : decode cX2_readCall 80 = .ok (.iload 4, 2) := by decide +kernel
theorem dX2_readCall_82 : decode cX2_readCall 82 = .ok (.iload 5, 2) := by decide +kernel
theorem dX2_readCall_84 : decode cX2_readCall 84 = .ok (.invokevirtual 124, 3) := by decide +kernel
theorem dX2_readCall_87 : decode cX2_readCall 87 = .ok (.return_, 1) := by decide +kernel
theorem dX2_readSet_0 : decode cX2_readSet 0 = .ok (.aload_n 0, 1) := by decide +kernel
theorem dX2_readSet_1 : decode cX2_readSet 1 = .ok (.invokevirtual 90, 3) := by decide +kernel
theorem dX2_readSet_4 : decode cX2_readSet 4 = .ok (.aload_n 0, 1) := by decide +kernel
theorem dX2_readSet_5 : decode cX2_readSet 5 = .ok (.invokevirtual 127, 3) := by decide +kernel
theorem dX2_readSet_8 : decode cX2_readSet 8 = .ok (.istore_n 1, 1) := by decide +kernel
theorem dX2_readSet_9 : decode cX2_readSet 9 = .ok (.iload_n 1, 1) := by decide +kernel
theorem dX2_readSet_10 : decode cX2_readSet 10 = .ok (.iconst (-1), 1) := by decide +kernel
theorem dX2_readSet_11 : decode cX2_readSet 11 = .ok (.if_icmp .ne 10, 3) := by decide +kernel
theorem dX2_readSet_14 : decode cX2_readSet 14 = .ok (.aload_n 0, 1) := by decide +kernel
theorem dX2_readSet_15 : decode cX2_readSet 15 = .ok (.bipush (-11), 2) := by decide +kernel
theorem dX2_readSet_17 : decode cX2_readSet 17 = .ok (.invokevirtual 84, 3) := by decide +kernel
theorem dX2_readSet_20 : decode cX2_readSet 20 = .ok (.return_, 1) := by decide +kernel
theorem dX2_readSet_21 : decode cX2_readSet 21 = .ok (.aload_n 0, 1) := by decide +kernel
theorem dX2_readSet_22 : decode cX2_readSet 22 = .ok (.getfield 46, 3) := by decide +kernel
theorem dX2_readSet_25 : decode cX2_readSet 25 = .ok (.iload_n 1, 1) := by decide +kernel
theorem dX2_readSet_26 : decode cX2_readSet 26 = .ok (.ishr, 1) := by decide +kernel
theorem dX2_readSet_27 : decode cX2_readSet 27 = .ok (.iconst 1, 1) := by decide +kernel
theorem dX2_readSet_28 : decode cX2_readSet 28 = .ok (.iand, 1) := by decide +kernel
theorem dX2_readSet_29 : decode cX2_readSet 29 = .ok (.ifCond .eq 12, 3) := by decide +kernel
theorem dX2_readSet_32 : decode cX2_readSet 32 = .ok (.aload_n 0, 1) := by decide +kernel
theorem dX2_readSet_33 : decode cX2_readSet 33 = .ok (.bipush (-14), 2) := by decide +kernel
theorem dX2_readSet_35 : decode cX2_readSet 35 = .ok (.invokevirtual 84, 3) := by decide +kernel
theorem dX2_readSet_38 : decode cX2_readSet 38 = .ok (.goto 24, 3) := by decide +kernel
theorem dX2_readSet_41 : decode cX2_readSet 41 = .ok (.iload_n 1, 1) := by decide +kernel
theorem dX2_readSet_42 : decode cX2_readSet 42 = .ok (.iconst 4, 1) := by decide +kernel
theorem dX2_readSet_43 : decode cX2_readSet 43 = .ok (.if_icmp .ge 19, 3) := by decide +kernel
theorem dX2_readSet_46 : decode cX2_readSet 46 = .ok (.aload_n 0, 1) := by decide +kernel
theorem dX2_readSet_47 : decode cX2_readSet 47 = .ok (.getfield 21, 3) := by decide +kernel
theorem dX2_readSet_50 : decode cX2_readSet 50 = .ok (.getfield 87, 3) := by decide +kernel
theorem dX2_readSet_53 : decode cX2_readSet 53 = .ok (.ifCond .le 9, 3) := by decide +kernel
theorem dX2_readSet_56 : decode cX2_readSet 56 = .ok (.aload_n 0, 1) := by decide +kernel
theorem dX2_readSet_57 : decode cX2_readSet 57 = .ok (.bipush (-15), 2) := by decide +kernel
theorem dX2_readSet_59 : decode cX2_readSet 59 = .ok (.invokevirtual 84, 3) := by decide +kernel
theorem dX2_readSet_62 : decode cX2_readSet 62 = .ok (.aload_n 0, 1) := by decide +kernel
theorem dX2_readSet_63 : decode cX2_readSet 63 = .ok (.invokevirtual 90, 3) := by decide +kernel
theorem dX2_readSet_66 : decode cX2_readSet 66 = .ok (.aload_n 0, 1) := by decide +kernel
theorem dX2_readSet_67 : decode cX2_readSet 67 = .ok (.getstatic 130, 3) := by decide +kernel
theorem dX2_readSet_70 : decode cX2_readSet 70 = .ok (.iload_n 1, 1) := by decide +kernel
theorem dX2_readSet_71 : decode cX2_readSet 71 = .ok (.iaload, 1) := by decide +kernel
theorem dX2_readSet_72 : decode cX2_readSet 72 = .ok (.getstatic 134, 3) := by decide +kernel
theorem dX2_readSet_75 : decode cX2_readSet 75 = .ok (.iload_n 1, 1) := by decide +kernel
theorem dX2_readSet_76 : decode cX2_readSet 76 = .ok (.iaload, 1) := by decide +kernel
theorem dX2_readSet_77 : decode cX2_readSet 77 = .ok (.invokevirtual 93, 3) := by decide +kernel
theorem dX2_readSet_80 : decode cX2_readSet 80 = .ok (.istore_n 2, 1) := by decide +kernel
theorem dX2_readSet_81 : decode cX2_readSet 81 = .ok (.aload_n 0, 1) := by decide +kernel
theorem dX2_readSet_82 : decode cX2_readSet 82 = .ok (.invokevirtual 97, 3) := by decide +kernel
theorem dX2_readSet_85 : decode cX2_readSet 85 = .ok (.aload_n 0, 1) := by decide +kernel
theorem dX2_readSet_86 : decode cX2_readSet 86 = .ok (.getfield 39, 3) := by decide +kernel
theorem dX2_readSet_89 : decode cX2_readSet 89 = .ok (.ifCond .ne 25, 3) := by decide +kernel
theorem dX2_readSet_92 : decode cX2_readSet 92 = .ok (.aload_n 0, 1) := by decide +kernel
theorem dX2_readSet_93 : decode cX2_readSet 93 = .ok (.dup, 1) := by decide +kernel
theorem dX2_readSet_94 : decode cX2_readSet 94 = .ok (.getfield 46, 3) := by decide +kernel
theorem dX2_readSet_97 : decode cX2_readSet 97 = .ok (.iconst 1, 1) := by decide +kernel
theorem dX2_readSet_98 : decode cX2_readSet 98 = .ok (.iload_n 1, 1) := by decide +kernel
theorem dX2_readSet_99 : decode cX2_readSet 99 = .ok (.ishl, 1) := by decide +kernel
theorem dX2_readSet_100 : decode cX2_readSet 100 = .ok (.ior, 1) := by decide +kernel
theorem dX2_readSet_101 : decode cX2_readSet 101 = .ok (.putfield 46, 3) := by decide +kernel
theorem dX2_readSet_104 : decode cX2_readSet 104 = .ok (.aload_n 0, 1) := by decide +kernel
theorem dX2_readSet_105 : decode cX2_readSet 105 = .ok (.getfield 21, 3) := by decide +kernel
theorem dX2_readSet_108 : decode cX2_readSet 108 = .ok (.getfield 137, 3) := by decide +kernel
theorem dX2_readSet_111 : decode cX2_readSet 111 = .ok (.iload_n 1, 1) := by decide +kernel
theorem dX2_readSet_112 : decode cX2_readSet 112 = .ok (.iload_n 2, 1) := by decide +kernel
theorem dX2_readSet_113 : decode cX2_readSet 113 = .ok (.iastore, 1) := by decide +kernel
theorem dX2_readSet_114 : decode cX2_readSet 114 = .ok (.return_, 1) := by decide +kernel
theorem dX2_accept_0 : decode cX2_accept 0 = .ok (.aload_n 0, 1) := by decide +kernel
theorem dX2_accept_1 : decode cX2_accept 1 = .ok (.getfield 39, 3) := by decide +kernel
theorem dX2_accept_4 : decode cX2_accept 4 = .ok (.ifCond .ne 10, 3) := by decide +kernel
theorem dX2_accept_7 : decode cX2_accept 7 = .ok (.aload_n 0, 1) := by decide +kernel
theorem dX2_accept_8 : decode cX2_accept 8 = .ok (.getfield 12, 3) := by decide +kernel
theorem dX2_accept_11 : decode cX2_accept 11 = .ok (.invokevirtual 140, 3) := by decide +kernel
theorem dX2_accept_14 : decode cX2_accept 14 = .ok (.return_, 1) := by decide +kernel
theorem dX2_fail_0 : decode cX2_fail 0 = .ok (.aload_n 0, 1) := by decide +kernel
theorem dX2_fail_1 : decode cX2_fail 1 = .ok (.getfield 39, 3) := by decide +kernel
theorem dX2_fail_4 : decode cX2_fail 4 = .ok (.ifCond .ne 19, 3) := by decide +kernel
theorem dX2_fail_7 : decode cX2_fail 7 = .ok (.aload_n 0, 1) := by decide +kernel
theorem dX2_fail_8 : decode cX2_fail 8 = .ok (.iload_n 1, 1) := by decide +kernel
theorem dX2_fail_9 : decode cX2_fail 9 = .ok (.putfield 39, 3) := by decide +kernel
theorem dX2_fail_12 : decode cX2_fail 12 = .ok (.aload_n 0, 1) := by decide +kernel
theorem dX2_fail_13 : decode cX2_fail 13 = .ok (.aload_n 0, 1) := by decide +kernel
theorem dX2_fail_14 : decode cX2_fail 14 = .ok (.getfield 12, 3) := by decide +kernel
theorem dX2_fail_17 : decode cX2_fail 17 = .ok (.getfield 143, 3) := by decide +kernel
theorem dX2_fail_20 : decode cX2_fail 20 = .ok (.putfield 25, 3) := by decide +kernel
theorem dX2_fail_23 : decode cX2_fail 23 = .ok (.return_, 1) := by decide +kernel
theorem dX2_readSemicolon_0 : decode cX2_readSemicolon 0 = .ok (.aload_n 0, 1) := by decide +kernel
theorem dX2_readSemicolon_1 : decode cX2_readSemicolon 1 = .ok (.getfield 12, 3) := by decide +kernel
theorem dX2_readSemicolon_4 : decode cX2_readSemicolon 4 = .ok (.getfield 52, 3) := by decide +kernel
theorem dX2_readSemicolon_7 : decode cX2_readSemicolon 7 = .ok (.iconst 3, 1) := by decide +kernel
theorem dX2_readSemicolon_8 : decode cX2_readSemicolon 8 = .ok (.if_icmp .eq 9, 3) := by decide +kernel
theorem dX2_readSemicolon_11 : decode cX2_readSemicolon 11 = .ok (.aload_n 0, 1) := by decide +kernel
theorem dX2_readSemicolon_12 : decode cX2_readSemicolon 12 = .ok (.bipush (-11), 2) := by decide +kernel
theorem dX2_readSemicolon_14 : decode cX2_readSemicolon 14 = .ok (.invokevirtual 84, 3) := by decide +kernel
theorem dX2_readSemicolon_17 : decode cX2_readSemicolon 17 = .ok (.aload_n 0, 1) := by decide +kernel
theorem dX2_readSemicolon_18 : decode cX2_readSemicolon 18 = .ok (.invokevirtual 90, 3) := by decide +kernel
theorem dX2_readSemicolon_21 : decode cX2_readSemicolon 21 = .ok (.return_, 1) := by decide +kernel
theorem dX2_readNumber_0 : decode cX2_readNumber 0 = .ok (.aload_n 0, 1) := by decide +kernel
theorem dX2_readNumber_1 : decode cX2_readNumber 1 = .ok (.getfield 12, 3) := by decide +kernel
theorem dX2_readNumber_4 : decode cX2_readNumber 4 = .ok (.getfield 52, 3) := by decide +kernel
theorem dX2_readNumber_7 : decode cX2_readNumber 7 = .ok (.iconst 2, 1) := by decide +kernel
theorem dX2_readNumber_8 : decode cX2_readNumber 8 = .ok (.if_icmp .eq 12, 3) := by decide +kernel
theorem dX2_readNumber_11 : decode cX2_readNumber 11 = .ok (.aload_n 0, 1) := by decide +kernel
theorem dX2_readNumber_12 : decode cX2_readNumber 12 = .ok (.bipush (-11), 2) := by decide +kernel
theorem dX2_readNumber_14 : decode cX2_readNumber 14 = .ok (.invokevirtual 84, 3) := by decide +kernel
theorem dX2_readNumber_17 : decode cX2_readNumber 17 = .ok (.goto 24, 3) := by decide +kernel
theorem dX2_readNumber_20 : decode cX2_readNumber 20 = .ok (.aload_n 0, 1) := by decide +kernel
theorem dX2_readNumber_21 : decode cX2_readNumber 21 = .ok (.getfield 12, 3) := by decide +kernel
theorem dX2_readNumber_24 : decode cX2_readNumber 24 = .ok (.getfield 146, 3) := by decide +kernel
theorem dX2_readNumber_27 : decode cX2_readNumber 27 = .ok (.iload_n 1, 1) := by decide +kernel
theorem dX2_readNumber_28 : decode cX2_readNumber 28 = .ok (.iload_n 2, 1) := by decide +kernel
theorem dX2_readNumber_29 : decode cX2_readNumber 29 = .ok (.invokestatic 149, 3) := by decide +kernel
theorem dX2_readNumber_32 : decode cX2_readNumber 32 = .ok (.ifCond .ne 9, 3) := by decide +kernel
theorem dX2_readNumber_35 : decode cX2_readNumber 35 = .ok (.aload_n 0, 1) := by decide +kernel
theorem dX2_readNumber_36 : decode cX2_readNumber 36 = .ok (.bipush (-12), 2) := by decide +kernel
theorem dX2_readNumber_38 : decode cX2_readNumber 38 = .ok (.invokevirtual 84, 3) := by decide +kernel
theorem dX2_readNumber_41 : decode cX2_readNumber 41 = .ok (.aload_n 0, 1) := by decide +kernel
theorem dX2_readNumber_42 : decode cX2_readNumber 42 = .ok (.getfield 12, 3) := by decide +kernel
theorem dX2_readNumber_45 : decode cX2_readNumber 45 = .ok (.getfield 146, 3) := by decide +kernel
theorem dX2_readNumber_48 : decode cX2_readNumber 48 = .ok (.istore_n 3, 1) := by decide +kernel
theorem dX2_readNumber_49 : decode cX2_readNumber 49 = .ok (.aload_n 0, 1) := by decide +kernel
theorem dX2_readNumber_50 : decode cX2_readNumber 50 = .ok (.invokevirtual 90, 3) := by decide +kernel
theorem dX2_readNumber_53 : decode cX2_readNumber 53 = .ok (.iload_n 3, 1) := by decide +kernel
theorem dX2_readNumber_54 : decode cX2_readNumber 54 = .ok (.ireturn, 1) := by decide +kernel
theorem dX2_readNewName_0 : decode cX2_readNewName 0 = .ok (.aload_n 0, 1) := by decide +kernel
theorem dX2_readNewName_1 : decode cX2_readNewName 1 = .ok (.invokevirtual 153, 3) := by decide +kernel
theorem dX2_readNewName_4 : decode cX2_readNewName 4 = .ok (.istore_n 1, 1) := by decide +kernel
theorem dX2_readNewName_5 : decode cX2_readNewName 5 = .ok (.aload_n 0, 1) := by decide +kernel
theorem dX2_readNewName_6 : decode cX2_readNewName 6 = .ok (.getfield 21, 3) := by decide +kernel
theorem dX2_readNewName_9 : decode cX2_readNewName 9 = .ok (.iload_n 1, 1) := by decide +kernel
theorem dX2_readNewName_10 : decode cX2_readNewName 10 = .ok (.invokevirtual 156, 3) := by decide +kernel
theorem dX2_readNewName_13 : decode cX2_readNewName 13 = .ok (.iconst (-1), 1) := by decide +kernel
theorem dX2_readNewName_14 : decode cX2_readNewName 14 = .ok (.if_icmp .eq 9, 3) := by decide +kernel
theorem dX2_readNewName_17 : decode cX2_readNewName 17 = .ok (.aload_n 0, 1) := by decide +kernel
theorem dX2_readNewName_18 : decode cX2_readNewName 18 = .ok (.bipush (-14), 2) := by decide +kernel
theorem dX2_readNewName_20 : decode cX2_readNewName 20 = .ok (.invokevirtual 84, 3) := by decide +kernel
theorem dX2_readNewName_23 : decode cX2_readNewName 23 = .ok (.aload_n 0, 1) := by decide +kernel
theorem dX2_readNewName_24 : decode cX2_readNewName 24 = .ok (.invokevirtual 90, 3) := by decide +kernel
theorem dX2_readNewName_27 : decode cX2_readNewName 27 = .ok (.iload_n 1, 1) := by decide +kernel
theorem dX2_readNewName_28 : decode cX2_readNewName 28 = .ok (.ireturn, 1) := by decide +kernel
theorem dX2_readStationName_0 : decode cX2_readStationName 0 = .ok (.aload_n 0, 1) := by decide +kernel
theorem dX2_readStationName_1 : decode cX2_readStationName 1 = .ok (.getfield 21, 3) := by decide +kernel
theorem dX2_readStationName_4 : decode cX2_readStationName 4 = .ok (.aload_n 0, 1) := by decide +kernel
theorem dX2_readStationName_5 : decode cX2_readStationName 5 = .ok (.invokevirtual 153, 3) := by decide +kernel
theorem dX2_readStationName_8 : decode cX2_readStationName 8 = .ok (.invokevirtual 156, 3) := by decide +kernel
theorem dX2_readStationName_11 : decode cX2_readStationName 11 = .ok (.istore_n 2, 1) := by decide +kernel
theorem dX2_readStationName_12 : decode cX2_readStationName 12 = .ok (.iload_n 2, 1) := by decide +kernel
theorem dX2_readStationName_13 : decode cX2_readStationName 13 = .ok (.iconst (-1), 1) := by decide +kernel
theorem dX2_readStationName_14 : decode cX2_readStationName 14 = .ok (.if_icmp .eq 8, 3) := by decide +kernel
theorem dX2_readStationName_17 : decode cX2_readStationName 17 = .ok (.iload_n 2, 1) := by decide +kernel
theorem dX2_readStationName_18 : decode cX2_readStationName 18 = .ok (.iload_n 1, 1) := by decide +kernel
theorem dX2_readStationName_19 : decode cX2_readStationName 19 = .ok (.if_icmp .ne 9, 3) := by decide +kernel
theorem dX2_readStationName_22 : decode cX2_readStationName 22 = .ok (.aload_n 0, 1) := by decide +kernel
theorem dX2_readStationName_23 : decode cX2_readStationName 23 = .ok (.bipush (-13), 2) := by decide +kernel
theorem dX2_readStationName_25 : decode cX2_readStationName 25 = .ok (.invokevirtual 84, 3) := by decide +kernel
theorem dX2_readStationName_28 : decode cX2_readStationName 28 = .ok (.aload_n 0, 1) := by decide +kernel
theorem dX2_readStationName_29 : decode cX2_readStationName 29 = .ok (.invokevirtual 90, 3) := by decide +kernel
theorem dX2_readStationName_32 : decode cX2_readStationName 32 = .ok (.iload_n 2, 1) := by decide +kernel
theorem dX2_readStationName_33 : decode cX2_readStationName 33 = .ok (.ireturn, 1) := by decide +kernel
theorem dX2_readName_0 : decode cX2_readName 0 = .ok (.aload_n 0, 1) := by decide +kernel
theorem dX2_readName_1 : decode cX2_readName 1 = .ok (.getfield 12, 3) := by decide +kernel
theorem dX2_readName_4 : decode cX2_readName 4 = .ok (.invokevirtual 159, 3) := by decide +kernel
theorem dX2_readName_7 : decode cX2_readName 7 = .ok (.ifCond .eq 47, 3) := by decide +kernel
theorem dX2_readName_10 : decode cX2_readName 10 = .ok (.aload_n 0, 1) := by decide +kernel
theorem dX2_readName_11 : decode cX2_readName 11 = .ok (.getfield 12, 3) := by decide +kernel
theorem dX2_readName_14 : decode cX2_readName 14 = .ok (.ldc 69, 2) := by decide +kernel
theorem dX2_readName_16 : decode cX2_readName 16 = .ok (.invokevirtual 57, 3) := by decide +kernel
theorem dX2_readName_19 : decode cX2_readName 19 = .ok (.ifCond .ne 35, 3) := by decide +kernel
theorem dX2_readName_22 : decode cX2_readName 22 = .ok (.aload_n 0, 1) := by decide +kernel
theorem dX2_readName_23 : decode cX2_readName 23 = .ok (.getfield 12, 3) := by decide +kernel
theorem dX2_readName_26 : decode cX2_readName 26 = .ok (.ldc 74, 2) := by decide +kernel
theorem dX2_readName_28 : decode cX2_readName 28 = .ok (.invokevirtual 57, 3) := by decide +kernel
theorem dX2_readName_31 : decode cX2_readName 31 = .ok (.ifCond .ne 23, 3) := by decide +kernel
theorem dX2_readName_34 : decode cX2_readName 34 = .ok (.aload_n 0, 1) := by decide +kernel
theorem dX2_readName_35 : decode cX2_readName 35 = .ok (.getfield 12, 3) := by decide +kernel
theorem dX2_readName_38 : decode cX2_readName 38 = .ok (.ldc 79, 2) := by decide +kernel
theorem dX2_readName_40 : decode cX2_readName 40 = .ok (.invokevirtual 57, 3) := by decide +kernel
theorem dX2_readName_43 : decode cX2_readName 43 = .ok (.ifCond .ne 11, 3) := by decide +kernel
theorem dX2_readName_46 : decode cX2_readName 46 = .ok (.aload_n 0, 1) := by decide +kernel
theorem dX2_readName_47 : decode cX2_readName 47 = .ok (.invokevirtual 127, 3) := by decide +kernel
theorem dX2_readName_50 : decode cX2_readName 50 = .ok (.iconst (-1), 1) := by decide +kernel
theorem dX2_readName_51 : decode cX2_readName 51 = .ok (.if_icmp .eq 11, 3) := by decide +kernel
theorem dX2_readName_54 : decode cX2_readName 54 = .ok (.aload_n 0, 1) := by decide +kernel
theorem dX2_readName_55 : decode cX2_readName 55 = .ok (.bipush (-11), 2) := by decide +kernel
theorem dX2_readName_57 : decode cX2_readName 57 = .ok (.invokevirtual 84, 3) := by decide +kernel
theorem dX2_readName_60 : decode cX2_readName 60 = .ok (.iconst 0, 1) := by decide +kernel
theorem dX2_readName_61 : decode cX2_readName 61 = .ok (.ireturn, 1) := by decide +kernel
theorem dX2_readName_62 : decode cX2_readName 62 = .ok (.aload_n 0, 1) := by decide +kernel
theorem dX2_readName_63 : decode cX2_readName 63 = .ok (.getfield 12, 3) := by decide +kernel
theorem dX2_readName_66 : decode cX2_readName 66 = .ok (.invokevirtual 163, 3) := by decide +kernel
theorem dX2_readName_69 : decode cX2_readName 69 = .ok (.ireturn, 1) := by decide +kernel
theorem dX2_settingHere_0 : decode cX2_settingHere 0 = .ok (.iconst 0, 1) := by decide +kernel
theorem dX2_settingHere_1 : decode cX2_settingHere 1 = .ok (.istore_n 1, 1) := by decide +kernel
theorem dX2_settingHere_2 : decode cX2_settingHere 2 = .ok (.iload_n 1, 1) := by decide +kernel
theorem dX2_settingHere_3 : decode cX2_settingHere 3 = .ok (.bipush 7, 2) := by decide +kernel
theorem dX2_settingHere_5 : decode cX2_settingHere 5 = .ok (.if_icmp .ge 25, 3) := by decide +kernel
theorem dX2_settingHere_8 : decode cX2_settingHere 8 = .ok (.aload_n 0, 1) := by decide +kernel
theorem dX2_settingHere_9 : decode cX2_settingHere 9 = .ok (.getfield 12, 3) := by decide +kernel
theorem dX2_settingHere_12 : decode cX2_settingHere 12 = .ok (.iload_n 1, 1) := by decide +kernel
theorem dX2_settingHere_13 : decode cX2_settingHere 13 = .ok (.invokestatic 166, 3) := by decide +kernel
theorem dX2_settingHere_16 : decode cX2_settingHere 16 = .ok (.invokevirtual 57, 3) := by decide +kernel
theorem dX2_settingHere_19 : decode cX2_settingHere 19 = .ok (.ifCond .eq 5, 3) := by decide +kernel
theorem dX2_settingHere_22 : decode cX2_settingHere 22 = .ok (.iload_n 1, 1) := by decide +kernel
theorem dX2_settingHere_23 : decode cX2_settingHere 23 = .ok (.ireturn, 1) := by decide +kernel
theorem dX2_settingHere_24 : decode cX2_settingHere 24 = .ok (.iinc 1 1, 3) := by decide +kernel
theorem dX2_settingHere_27 : decode cX2_settingHere 27 = .ok (.goto (-25), 3) := by decide +kernel
theorem dX2_settingHere_30 : decode cX2_settingHere 30 = .ok (.iconst (-1), 1) := by decide +kernel
theorem dX2_settingHere_31 : decode cX2_settingHere 31 = .ok (.ireturn, 1) := by decide +kernel
theorem dX2_settingWord_0 : decode cX2_settingWord 0 = .ok (.iload_n 0, 1) := by decide +kernel
theorem dX2_settingWord_1 : decode cX2_settingWord 1 = .ok (.tableswitch 57 0 5 #[39, 42, 45, 48, 51, 54], 39) := by decide +kernel
theorem dX2_settingWord_40 : decode cX2_settingWord 40 = .ok (.ldc 170, 2) := by decide +kernel
theorem dX2_settingWord_42 : decode cX2_settingWord 42 = .ok (.areturn, 1) := by decide +kernel
theorem dX2_settingWord_43 : decode cX2_settingWord 43 = .ok (.ldc 172, 2) := by decide +kernel
theorem dX2_settingWord_45 : decode cX2_settingWord 45 = .ok (.areturn, 1) := by decide +kernel
theorem dX2_settingWord_46 : decode cX2_settingWord 46 = .ok (.ldc 174, 2) := by decide +kernel
theorem dX2_settingWord_48 : decode cX2_settingWord 48 = .ok (.areturn, 1) := by decide +kernel
theorem dX2_settingWord_49 : decode cX2_settingWord 49 = .ok (.ldc 176, 2) := by decide +kernel
theorem dX2_settingWord_51 : decode cX2_settingWord 51 = .ok (.areturn, 1) := by decide +kernel
theorem dX2_settingWord_52 : decode cX2_settingWord 52 = .ok (.ldc 178, 2) := by decide +kernel
theorem dX2_settingWord_54 : decode cX2_settingWord 54 = .ok (.areturn, 1) := by decide +kernel
theorem dX2_settingWord_55 : decode cX2_settingWord 55 = .ok (.ldc 180, 2) := by decide +kernel
theorem dX2_settingWord_57 : decode cX2_settingWord 57 = .ok (.areturn, 1) := by decide +kernel
theorem dX2_settingWord_58 : decode cX2_settingWord 58 = .ok (.ldc 181, 2) := by decide +kernel
theorem dX2_settingWord_60 : decode cX2_settingWord 60 = .ok (.areturn, 1) := by decide +kernel
theorem dX3_init_0 : decode cX3_init 0 = .ok (.aload_n 0, 1) := by decide +kernel
theorem dX3_init_1 : decode cX3_init 1 = .ok (.invokespecial 1, 3) := by decide +kernel
theorem dX3_init_4 : decode cX3_init 4 = .ok (.return_, 1) := by decide +kernel
theorem dX3_copyFrom_0 : decode cX3_copyFrom 0 = .ok (.aload_n 0, 1) := by decide +kernel
theorem dX3_copyFrom_1 : decode cX3_copyFrom 1 = .ok (.aload_n 1, 1) := by decide +kernel
theorem dX3_copyFrom_2 : decode cX3_copyFrom 2 = .ok (.getfield 7, 3) := by decide +kernel
theorem dX3_copyFrom_5 : decode cX3_copyFrom 5 = .ok (.putfield 7, 3) := by decide +kernel
theorem dX3_copyFrom_8 : decode cX3_copyFrom 8 = .ok (.aload_n 0, 1) := by decide +kernel
theorem dX3_copyFrom_9 : decode cX3_copyFrom 9 = .ok (.aload_n 1, 1) := by decide +kernel
theorem dX3_copyFrom_10 : decode cX3_copyFrom 10 = .ok (.getfield 13, 3) := by decide +kernel
theorem dX3_copyFrom_13 : decode cX3_copyFrom 13 = .ok (.putfield 13, 3) := by decide +kernel
theorem dX3_copyFrom_16 : decode cX3_copyFrom 16 = .ok (.aload_n 0, 1) := by decide +kernel
theorem dX3_copyFrom_17 : decode cX3_copyFrom 17 = .ok (.aload_n 1, 1) := by decide +kernel
theorem dX3_copyFrom_18 : decode cX3_copyFrom 18 = .ok (.getfield 16, 3) := by decide +kernel
theorem dX3_copyFrom_21 : decode cX3_copyFrom 21 = .ok (.putfield 16, 3) := by decide +kernel
theorem dX3_copyFrom_24 : decode cX3_copyFrom 24 = .ok (.aload_n 0, 1) := by decide +kernel
theorem dX3_copyFrom_25 : decode cX3_copyFrom 25 = .ok (.aload_n 1, 1) := by decide +kernel
theorem dX3_copyFrom_26 : decode cX3_copyFrom 26 = .ok (.getfield 19, 3) := by decide +kernel
theorem dX3_copyFrom_29 : decode cX3_copyFrom 29 = .ok (.putfield 19, 3) := by decide +kernel
theorem dX3_copyFrom_32 : decode cX3_copyFrom 32 = .ok (.return_, 1) := by decide +kernel
theorem dX4_init_0 : decode cX4_init 0 = .ok (.aload_n 0, 1) := by decide +kernel
theorem dX4_init_1 : decode cX4_init 1 = .ok (.invokespecial 3, 3) := by decide +kernel
theorem dX4_init_4 : decode cX4_init 4 = .ok (.aload_n 0, 1) := by decide +kernel
theorem dX4_init_5 : decode cX4_init 5 = .ok (.bipush 7, 2) := by decide +kernel
theorem dX4_init_7 : decode cX4_init 7 = .ok (.newarray .int, 2) := by decide +kernel
theorem dX4_init_9 : decode cX4_init 9 = .ok (.putfield 9, 3) := by decide +kernel
theorem dX4_init_12 : decode cX4_init 12 = .ok (.aload_n 0, 1) := by decide +kernel
theorem dX4_init_13 : decode cX4_init 13 = .ok (.bipush 6, 2) := by decide +kernel
theorem dX4_init_15 : decode cX4_init 15 = .ok (.anewarray 15, 3) := by decide +kernel
theorem dX4_init_18 : decode cX4_init 18 = .ok (.putfield 17, 3) := by decide +kernel
theorem dX4_init_21 : decode cX4_init 21 = .ok (.aload_n 0, 1) := by decide +kernel
theorem dX4_init_22 : decode cX4_init 22 = .ok (.bipush 8, 2) := by decide +kernel
theorem dX4_init_24 : decode cX4_init 24 = .ok (.anewarray 21, 3) := by decide +kernel
theorem dX4_init_27 : decode cX4_init 27 = .ok (.putfield 23, 3) := by decide +kernel
theorem dX4_init_30 : decode cX4_init 30 = .ok (.aload_n 0, 1) := by decide +kernel
theorem dX4_init_31 : decode cX4_init 31 = .ok (.bipush 16, 2) := by decide +kernel
theorem dX4_init_33 : decode cX4_init 33 = .ok (.anewarray 27, 3) := by decide +kernel
theorem dX4_init_36 : decode cX4_init 36 = .ok (.putfield 29, 3) := by decide +kernel
theorem dX4_init_39 : decode cX4_init 39 = .ok (.iconst 0, 1) := by decide +kernel
theorem dX4_init_40 : decode cX4_init 40 = .ok (.istore_n 1, 1) := by decide +kernel
theorem dX4_init_41 : decode cX4_init 41 = .ok (.iload_n 1, 1) := by decide +kernel
theorem dX4_init_42 : decode cX4_init 42 = .ok (.bipush 6, 2) := by decide +kernel
theorem dX4_init_44 : decode cX4_init 44 = .ok (.if_icmp .ge 22, 3) := by decide +kernel
theorem dX4_init_47 : decode cX4_init 47 = .ok (.aload_n 0, 1) := by decide +kernel
theorem dX4_init_48 : decode cX4_init 48 = .ok (.getfield 17, 3) := by decide +kernel
theorem dX4_init_51 : decode cX4_init 51 = .ok (.iload_n 1, 1) := by decide +kernel
theorem dX4_init_52 : decode cX4_init 52 = .ok (.new 15, 3) := by decide +kernel
theorem dX4_init_55 : decode cX4_init 55 = .ok (.dup, 1) := by decide +kernel
theorem dX4_init_56 : decode cX4_init 56 = .ok (.invokespecial 33, 3) := by decide +kernel
theorem dX4_init_59 : decode cX4_init 59 = .ok (.aastore, 1) := by decide +kernel
theorem dX4_init_60 : decode cX4_init 60 = .ok (.iinc 1 1, 3) := by decide +kernel
theorem dX4_init_63 : decode cX4_init 63 = .ok (.goto (-22), 3) := by decide +kernel
theorem dX4_init_66 : decode cX4_init 66 = .ok (.iconst 0, 1) := by decide +kernel
theorem dX4_init_67 : decode cX4_init 67 = .ok (.istore_n 1, 1) := by decide +kernel
theorem dX4_init_68 : decode cX4_init 68 = .ok (.iload_n 1, 1) := by decide +kernel
theorem dX4_init_69 : decode cX4_init 69 = .ok (.bipush 8, 2) := by decide +kernel
theorem dX4_init_71 : decode cX4_init 71 = .ok (.if_icmp .ge 22, 3) := by decide +kernel
theorem dX4_init_74 : decode cX4_init 74 = .ok (.aload_n 0, 1) := by decide +kernel
theorem dX4_init_75 : decode cX4_init 75 = .ok (.getfield 23, 3) := by decide +kernel
theorem dX4_init_78 : decode cX4_init 78 = .ok (.iload_n 1, 1) := by decide +kernel
theorem dX4_init_79 : decode cX4_init 79 = .ok (.new 21, 3) := by decide +kernel
theorem dX4_init_82 : decode cX4_init 82 = .ok (.dup, 1) := by decide +kernel
theorem dX4_init_83 : decode cX4_init 83 = .ok (.invokespecial 34, 3) := by decide +kernel
theorem dX4_init_86 : decode cX4_init 86 = .ok (.aastore, 1) := by decide +kernel
theorem dX4_init_87 : decode cX4_init 87 = .ok (.iinc 1 1, 3) := by decide +kernel
theorem dX4_init_90 : decode cX4_init 90 = .ok (.goto (-22), 3) := by decide +kernel
theorem dX4_init_93 : decode cX4_init 93 = .ok (.iconst 0, 1) := by decide +kernel
theorem dX4_init_94 : decode cX4_init 94 = .ok (.istore_n 1, 1) := by decide +kernel
theorem dX4_init_95 : decode cX4_init 95 = .ok (.iload_n 1, 1) := by decide +kernel
theorem dX4_init_96 : decode cX4_init 96 = .ok (.bipush 16, 2) := by decide +kernel
theorem dX4_init_98 : decode cX4_init 98 = .ok (.if_icmp .ge 22, 3) := by decide +kernel
theorem dX4_init_101 : decode cX4_init 101 = .ok (.aload_n 0, 1) := by decide +kernel
theorem dX4_init_102 : decode cX4_init 102 = .ok (.getfield 29, 3) := by decide +kernel
theorem dX4_init_105 : decode cX4_init 105 = .ok (.iload_n 1, 1) := by decide +kernel
theorem dX4_init_106 : decode cX4_init 106 = .ok (.new 27, 3) := by decide +kernel
theorem dX4_init_109 : decode cX4_init 109 = .ok (.dup, 1) := by decide +kernel
theorem dX4_init_110 : decode cX4_init 110 = .ok (.invokespecial 35, 3) := by decide +kernel
theorem dX4_init_113 : decode cX4_init 113 = .ok (.aastore, 1) := by decide +kernel
theorem dX4_init_114 : decode cX4_init 114 = .ok (.iinc 1 1, 3) := by decide +kernel
theorem dX4_init_117 : decode cX4_init 117 = .ok (.goto (-22), 3) := by decide +kernel
theorem dX4_init_120 : decode cX4_init 120 = .ok (.aload_n 0, 1) := by decide +kernel
theorem dX4_init_121 : decode cX4_init 121 = .ok (.invokevirtual 36, 3) := by decide +kernel
theorem dX4_init_124 : decode cX4_init 124 = .ok (.return_, 1) := by decide +kernel
theorem dX4_clear_0 : decode cX4_clear 0 = .ok (.aload_n 0, 1) := by decide +kernel
theorem dX4_clear_1 : decode cX4_clear 1 = .ok (.iconst 0, 1) := by decide +kernel
theorem dX4_clear_2 : decode cX4_clear 2 = .ok (.putfield 39, 3) := by decide +kernel
theorem dX4_clear_5 : decode cX4_clear 5 = .ok (.aload_n 0, 1) := by decide +kernel
theorem dX4_clear_6 : decode cX4_clear 6 = .ok (.iconst 1, 1) := by decide +kernel
theorem dX4_clear_7 : decode cX4_clear 7 = .ok (.putfield 43, 3) := by decide +kernel
theorem dX4_clear_10 : decode cX4_clear 10 = .ok (.aload_n 0, 1) := by decide +kernel
theorem dX4_clear_11 : decode cX4_clear 11 = .ok (.iconst 0, 1) := by decide +kernel
theorem dX4_clear_12 : decode cX4_clear 12 = .ok (.putfield 46, 3) := by decide +kernel
theorem dX4_clear_15 : decode cX4_clear 15 = .ok (.aload_n 0, 1) := by decide +kernel
theorem dX4_clear_16 : decode cX4_clear 16 = .ok (.iconst 0, 1) := by decide +kernel
theorem dX4_clear_17 : decode cX4_clear 17 = .ok (.putfield 49, 3) := by decide +kernel
theorem dX4_clear_20 : decode cX4_clear 20 = .ok (.aload_n 0, 1) := by decide +kernel
theorem dX4_clear_21 : decode cX4_clear 21 = .ok (.iconst 0, 1) := by decide +kernel
theorem dX4_clear_22 : decode cX4_clear 22 = .ok (.putfield 52, 3) := by decide +kernel
theorem dX4_clear_25 : decode cX4_clear 25 = .ok (.getstatic 55, 3) := by decide +kernel
theorem dX4_clear_28 : decode cX4_clear 28 = .ok (.iconst 0, 1) := by decide +kernel
theorem dX4_clear_29 : decode cX4_clear 29 = .ok (.aload_n 0, 1) := by decide +kernel
theorem dX4_clear_30 : decode cX4_clear 30 = .ok (.getfield 9, 3) := by decide +kernel
theorem dX4_clear_33 : decode cX4_clear 33 = .ok (.iconst 0, 1) := by decide +kernel
theorem dX4_clear_34 : decode cX4_clear 34 = .ok (.bipush 7, 2) := by decide +kernel
theorem dX4_clear_36 : decode cX4_clear 36 = .ok (.invokestatic 58, 3) := by decide +kernel
theorem dX4_clear_39 : decode cX4_clear 39 = .ok (.return_, 1) := by decide +kernel
theorem dX4_copyFrom_0 : decode cX4_copyFrom 0 = .ok (.aload_n 0, 1) := by decide +kernel
theorem dX4_copyFrom_1 : decode cX4_copyFrom 1 = .ok (.aload_n 1, 1) := by decide +kernel
theorem dX4_copyFrom_2 : decode cX4_copyFrom 2 = .ok (.getfield 39, 3) := by decide +kernel
theorem dX4_copyFrom_5 : decode cX4_copyFrom 5 = .ok (.putfield 39, 3) := by decide +kernel
theorem dX4_copyFrom_8 : decode cX4_copyFrom 8 = .ok (.aload_n 0, 1) := by decide +kernel
theorem dX4_copyFrom_9 : decode cX4_copyFrom 9 = .ok (.aload_n 1, 1) := by decide +kernel
theorem dX4_copyFrom_10 : decode cX4_copyFrom 10 = .ok (.getfield 43, 3) := by decide +kernel
theorem dX4_copyFrom_13 : decode cX4_copyFrom 13 = .ok (.putfield 43, 3) := by decide +kernel
theorem dX4_copyFrom_16 : decode cX4_copyFrom 16 = .ok (.aload_n 0, 1) := by decide +kernel
theorem dX4_copyFrom_17 : decode cX4_copyFrom 17 = .ok (.aload_n 1, 1) := by decide +kernel
theorem dX4_copyFrom_18 : decode cX4_copyFrom 18 = .ok (.getfield 46, 3) := by decide +kernel
theorem dX4_copyFrom_21 : decode cX4_copyFrom 21 = .ok (.putfield 46, 3) := by decide +kernel
theorem dX4_copyFrom_24 : decode cX4_copyFrom 24 = .ok (.aload_n 0, 1) := by decide +kernel
theorem dX4_copyFrom_25 : decode cX4_copyFrom 25 = .ok (.aload_n 1, 1) := by decide +kernel
theorem dX4_copyFrom_26 : decode cX4_copyFrom 26 = .ok (.getfield 49, 3) := by decide +kernel
theorem dX4_copyFrom_29 : decode cX4_copyFrom 29 = .ok (.putfield 49, 3) := by decide +kernel
theorem dX4_copyFrom_32 : decode cX4_copyFrom 32 = .ok (.aload_n 0, 1) := by decide +kernel
theorem dX4_copyFrom_33 : decode cX4_copyFrom 33 = .ok (.aload_n 1, 1) := by decide +kernel
theorem dX4_copyFrom_34 : decode cX4_copyFrom 34 = .ok (.getfield 52, 3) := by decide +kernel
theorem dX4_copyFrom_37 : decode cX4_copyFrom 37 = .ok (.putfield 52, 3) := by decide +kernel
theorem dX4_copyFrom_40 : decode cX4_copyFrom 40 = .ok (.aload_n 1, 1) := by decide +kernel
theorem dX4_copyFrom_41 : decode cX4_copyFrom 41 = .ok (.getfield 9, 3) := by decide +kernel
theorem dX4_copyFrom_44 : decode cX4_copyFrom 44 = .ok (.iconst 0, 1) := by decide +kernel
theorem dX4_copyFrom_45 : decode cX4_copyFrom 45 = .ok (.aload_n 0, 1) := by decide +kernel
theorem dX4_copyFrom_46 : decode cX4_copyFrom 46 = .ok (.getfield 9, 3) := by decide +kernel
theorem dX4_copyFrom_49 : decode cX4_copyFrom 49 = .ok (.iconst 0, 1) := by decide +kernel
theorem dX4_copyFrom_50 : decode cX4_copyFrom 50 = .ok (.bipush 7, 2) := by decide +kernel
theorem dX4_copyFrom_52 : decode cX4_copyFrom 52 = .ok (.invokestatic 58, 3) := by decide +kernel
theorem dX4_copyFrom_55 : decode cX4_copyFrom 55 = .ok (.iconst 0, 1) := by decide +kernel
theorem dX4_copyFrom_56 : decode cX4_copyFrom 56 = .ok (.istore_n 2, 1) := by decide +kernel
theorem dX4_copyFrom_57 : decode cX4_copyFrom 57 = .ok (.iload_n 2, 1) := by decide +kernel
theorem dX4_copyFrom_58 : decode cX4_copyFrom 58 = .ok (.aload_n 0, 1) := by decide +kernel
theorem dX4_copyFrom_59 : decode cX4_copyFrom 59 = .ok (.getfield 46, 3) := by decide +kernel
theorem dX4_copyFrom_62 : decode cX4_copyFrom 62 = .ok (.if_icmp .ge 24, 3) := by decide +kernel
theorem dX4_copyFrom_65 : decode cX4_copyFrom 65 = .ok (.aload_n 0, 1) := by decide +kernel
theorem dX4_copyFrom_66 : decode cX4_copyFrom 66 = .ok (.getfield 17, 3) := by decide +kernel
theorem dX4_copyFrom_69 : decode cX4_copyFrom 69 = .ok (.iload_n 2, 1) := by decide +kernel
theorem dX4_copyFrom_70 : decode cX4_copyFrom 70 = .ok (.aaload, 1) := by decide +kernel
theorem dX4_copyFrom_71 : decode cX4_copyFrom 71 = .ok (.aload_n 1, 1) := by decide +kernel
theorem dX4_copyFrom_72 : decode cX4_copyFrom 72 = .ok (.getfield 17, 3) := by decide +kernel
theorem dX4_copyFrom_75 : decode cX4_copyFrom 75 = .ok (.iload_n 2, 1) := by decide +kernel
theorem dX4_copyFrom_76 : decode cX4_copyFrom 76 = .ok (.aaload, 1) := by decide +kernel
theorem dX4_copyFrom_77 : decode cX4_copyFrom 77 = .ok (.invokevirtual 64, 3) := by decide +kernel
theorem dX4_copyFrom_80 : decode cX4_copyFrom 80 = .ok (.iinc 2 1, 3) := by decide +kernel
theorem dX4_copyFrom_83 : decode cX4_copyFrom 83 = .ok (.goto (-26), 3) := by decide +kernel
theorem dX4_copyFrom_86 : decode cX4_copyFrom 86 = .ok (.iconst 0, 1) := by decide +kernel
theorem dX4_copyFrom_87 : decode cX4_copyFrom 87 = .ok (.istore_n 2, 1) := by decide +kernel
theorem dX4_copyFrom_88 : decode cX4_copyFrom 88 = .ok (.iload_n 2, 1) := by decide +kernel
theorem dX4_copyFrom_89 : decode cX4_copyFrom 89 = .ok (.aload_n 0, 1) := by decide +kernel
theorem dX4_copyFrom_90 : decode cX4_copyFrom 90 = .ok (.getfield 49, 3) := by decide +kernel
theorem dX4_copyFrom_93 : decode cX4_copyFrom 93 = .ok (.if_icmp .ge 24, 3) := by decide +kernel
theorem dX4_copyFrom_96 : decode cX4_copyFrom 96 = .ok (.aload_n 0, 1) := by decide +kernel
theorem dX4_copyFrom_97 : decode cX4_copyFrom 97 = .ok (.getfield 23, 3) := by decide +kernel
theorem dX4_copyFrom_100 : decode cX4_copyFrom 100 = .ok (.iload_n 2, 1) := by decide +kernel
theorem dX4_copyFrom_101 : decode cX4_copyFrom 101 = .ok (.aaload, 1) := by decide +kernel
theorem dX4_copyFrom_102 : decode cX4_copyFrom 102 = .ok (.aload_n 1, 1) := by decide +kernel
theorem dX4_copyFrom_103 : decode cX4_copyFrom 103 = .ok (.getfield 23, 3) := by decide +kernel
theorem dX4_copyFrom_106 : decode cX4_copyFrom 106 = .ok (.iload_n 2, 1) := by decide +kernel
theorem dX4_copyFrom_107 : decode cX4_copyFrom 107 = .ok (.aaload, 1) := by decide +kernel
theorem dX4_copyFrom_108 : decode cX4_copyFrom 108 = .ok (.invokevirtual 68, 3) := by decide +kernel
theorem dX4_copyFrom_111 : decode cX4_copyFrom 111 = .ok (.iinc 2 1, 3) := by decide +kernel
theorem dX4_copyFrom_114 : decode cX4_copyFrom 114 = .ok (.goto (-26), 3) := by decide +kernel
theorem dX4_copyFrom_117 : decode cX4_copyFrom 117 = .ok (.iconst 0, 1) := by decide +kernel
theorem dX4_copyFrom_118 : decode cX4_copyFrom 118 = .ok (.istore_n 2, 1) := by decide +kernel
theorem dX4_copyFrom_119 : decode cX4_copyFrom 119 = .ok (.iload_n 2, 1) := by decide +kernel
theorem dX4_copyFrom_120 : decode cX4_copyFrom 120 = .ok (.aload_n 0, 1) := by decide +kernel
theorem dX4_copyFrom_121 : decode cX4_copyFrom 121 = .ok (.getfield 52, 3) := by decide +kernel
theorem dX4_copyFrom_124 : decode cX4_copyFrom 124 = .ok (.if_icmp .ge 24, 3) := by decide +kernel
theorem dX4_copyFrom_127 : decode cX4_copyFrom 127 = .ok (.aload_n 0, 1) := by decide +kernel
theorem dX4_copyFrom_128 : decode cX4_copyFrom 128 = .ok (.getfield 29, 3) := by decide +kernel
theorem dX4_copyFrom_131 : decode cX4_copyFrom 131 = .ok (.iload_n 2, 1) := by decide +kernel
theorem dX4_copyFrom_132 : decode cX4_copyFrom 132 = .ok (.aaload, 1) := by decide +kernel
theorem dX4_copyFrom_133 : decode cX4_copyFrom 133 = .ok (.aload_n 1, 1) := by decide +kernel
theorem dX4_copyFrom_134 : decode cX4_copyFrom 134 = .ok (.getfield 29, 3) := by decide +kernel
theorem dX4_copyFrom_137 : decode cX4_copyFrom 137 = .ok (.iload_n 2, 1) := by decide +kernel
theorem dX4_copyFrom_138 : decode cX4_copyFrom 138 = .ok (.aaload, 1) := by decide +kernel
theorem dX4_copyFrom_139 : decode cX4_copyFrom 139 = .ok (.invokevirtual 71, 3) := by decide +kernel
theorem dX4_copyFrom_142 : decode cX4_copyFrom 142 = .ok (.iinc 2 1, 3) := by decide +kernel
theorem dX4_copyFrom_145 : decode cX4_copyFrom 145 = .ok (.goto (-26), 3) := by decide +kernel
theorem dX4_copyFrom_148 : decode cX4_copyFrom 148 = .ok (.return_, 1) := by decide +kernel
theorem dX4_stationWithName_0 : decode cX4_stationWithName 0 = .ok (.iconst 0, 1) := by decide +kernel
theorem dX4_stationWithName_1 : decode cX4_stationWithName 1 = .ok (.istore_n 2, 1) := by decide +kernel
theorem dX4_stationWithName_2 : decode cX4_stationWithName 2 = .ok (.iload_n 2, 1) := by decide +kernel
theorem dX4_stationWithName_3 : decode cX4_stationWithName 3 = .ok (.aload_n 0, 1) := by decide +kernel
theorem dX4_stationWithName_4 : decode cX4_stationWithName 4 = .ok (.getfield 46, 3) := by decide +kernel
theorem dX4_stationWithName_7 : decode cX4_stationWithName 7 = .ok (.if_icmp .ge 24, 3) := by decide +kernel
theorem dX4_stationWithName_10 : decode cX4_stationWithName 10 = .ok (.aload_n 0, 1) := by decide +kernel
theorem dX4_stationWithName_11 : decode cX4_stationWithName 11 = .ok (.getfield 17, 3) := by decide +kernel
theorem dX4_stationWithName_14 : decode cX4_stationWithName 14 = .ok (.iload_n 2, 1) := by decide +kernel
theorem dX4_stationWithName_15 : decode cX4_stationWithName 15 = .ok (.aaload, 1) := by decide +kernel
theorem dX4_stationWithName_16 : decode cX4_stationWithName 16 = .ok (.getfield 74, 3) := by decide +kernel
theorem dX4_stationWithName_19 : decode cX4_stationWithName 19 = .ok (.iload_n 1, 1) := by decide +kernel
theorem dX4_stationWithName_20 : decode cX4_stationWithName 20 = .ok (.if_icmp .ne 5, 3) := by decide +kernel
theorem dX4_stationWithName_23 : decode cX4_stationWithName 23 = .ok (.iload_n 2, 1) := by decide +kernel
theorem dX4_stationWithName_24 : decode cX4_stationWithName 24 = .ok (.ireturn, 1) := by decide +kernel
theorem dX4_stationWithName_25 : decode cX4_stationWithName 25 = .ok (.iinc 2 1, 3) := by decide +kernel
theorem dX4_stationWithName_28 : decode cX4_stationWithName 28 = .ok (.goto (-26), 3) := by decide +kernel
theorem dX4_stationWithName_31 : decode cX4_stationWithName 31 = .ok (.iconst (-1), 1) := by decide +kernel
theorem dX4_stationWithName_32 : decode cX4_stationWithName 32 = .ok (.ireturn, 1) := by decide +kernel
theorem dX4_addStation_0 : decode cX4_addStation 0 = .ok (.aload_n 0, 1) := by decide +kernel
theorem dX4_addStation_1 : decode cX4_addStation 1 = .ok (.getfield 46, 3) := by decide +kernel
theorem dX4_addStation_4 : decode cX4_addStation 4 = .ok (.bipush 6, 2) := by decide +kernel
theorem dX4_addStation_6 : decode cX4_addStation 6 = .ok (.if_icmp .ge 32, 3) := by decide +kernel
theorem dX4_addStation_9 : decode cX4_addStation 9 = .ok (.aload_n 0, 1) := by decide +kernel
theorem dX4_addStation_10 : decode cX4_addStation 10 = .ok (.getfield 17, 3) := by decide +kernel
theorem dX4_addStation_13 : decode cX4_addStation 13 = .ok (.aload_n 0, 1) := by decide +kernel
theorem dX4_addStation_14 : decode cX4_addStation 14 = .ok (.getfield 46, 3) := by decide +kernel
theorem dX4_addStation_17 : decode cX4_addStation 17 = .ok (.aaload, 1) := by decide +kernel
theorem dX4_addStation_18 : decode cX4_addStation 18 = .ok (.iload_n 1, 1) := by decide +kernel
theorem dX4_addStation_19 : decode cX4_addStation 19 = .ok (.iload_n 2, 1) := by decide +kernel
theorem dX4_addStation_20 : decode cX4_addStation 20 = .ok (.iload_n 3, 1) := by decide +kernel
theorem dX4_addStation_21 : decode cX4_addStation 21 = .ok (.iload 4, 2) := by decide +kernel
theorem dX4_addStation_23 : decode cX4_addStation 23 = .ok (.iload 5, 2) := by decide +kernel
theorem dX4_addStation_25 : decode cX4_addStation 25 = .ok (.invokevirtual 77, 3) := by decide +kernel
theorem dX4_addStation_28 : decode cX4_addStation 28 = .ok (.aload_n 0, 1) := by decide +kernel
theorem dX4_addStation_29 : decode cX4_addStation 29 = .ok (.dup, 1) := by decide +kernel
theorem dX4_addStation_30 : decode cX4_addStation 30 = .ok (.getfield 46, 3) := by decide +kernel
theorem dX4_addStation_33 : decode cX4_addStation 33 = .ok (.iconst 1, 1) := by decide +kernel
theorem dX4_addStation_34 : decode cX4_addStation 34 = .ok (.iadd, 1) := by decide +kernel
theorem dX4_addStation_35 : decode cX4_addStation 35 = .ok (.putfield 46, 3) := by decide +kernel
theorem dX4_addStation_38 : decode cX4_addStation 38 = .ok (.return_, 1) := by decide +kernel
theorem dX4_addRain_0 : decode cX4_addRain 0 = .ok (.aload_n 0, 1) := by decide +kernel
theorem dX4_addRain_1 : decode cX4_addRain 1 = .ok (.getfield 49, 3) := by decide +kernel
theorem dX4_addRain_4 : decode cX4_addRain 4 = .ok (.bipush 8, 2) := by decide +kernel
theorem dX4_addRain_6 : decode cX4_addRain 6 = .ok (.if_icmp .ge 49, 3) := by decide +kernel
theorem dX4_addRain_9 : decode cX4_addRain 9 = .ok (.aload_n 0, 1) := by decide +kernel
theorem dX4_addRain_10 : decode cX4_addRain 10 = .ok (.getfield 23, 3) := by decide +kernel
theorem dX4_addRain_13 : decode cX4_addRain 13 = .ok (.aload_n 0, 1) := by decide +kernel
theorem dX4_addRain_14 : decode cX4_addRain 14 = .ok (.getfield 49, 3) := by decide +kernel
theorem dX4_addRain_17 : decode cX4_addRain 17 = .ok (.aaload, 1) := by decide +kernel
theorem dX4_addRain_18 : decode cX4_addRain 18 = .ok (.astore 5, 2) := by decide +kernel
theorem dX4_addRain_20 : decode cX4_addRain 20 = .ok (.aload 5, 2) := by decide +kernel
theorem dX4_addRain_22 : decode cX4_addRain 22 = .ok (.iload_n 1, 1) := by decide +kernel
theorem dX4_addRain_23 : decode cX4_addRain 23 = .ok (.putfield 81, 3) := by decide +kernel
theorem dX4_addRain_26 : decode cX4_addRain 26 = .ok (.aload 5, 2) := by decide +kernel
theorem dX4_addRain_28 : decode cX4_addRain 28 = .ok (.iload_n 2, 1) := by decide +kernel
theorem dX4_addRain_29 : decode cX4_addRain 29 = .ok (.putfield 84, 3) := by decide +kernel
theorem dX4_addRain_32 : decode cX4_addRain 32 = .ok (.aload 5, 2) := by decide +kernel
theorem dX4_addRain_34 : decode cX4_addRain 34 = .ok (.iload_n 3, 1) := by decide +kernel
theorem dX4_addRain_35 : decode cX4_addRain 35 = .ok (.putfield 87, 3) := by decide +kernel
theorem dX4_addRain_38 : decode cX4_addRain 38 = .ok (.aload 5, 2) := by decide +kernel
theorem dX4_addRain_40 : decode cX4_addRain 40 = .ok (.iload 4, 2) := by decide +kernel
theorem dX4_addRain_42 : decode cX4_addRain 42 = .ok (.putfield 90, 3) := by decide +kernel
theorem dX4_addRain_45 : decode cX4_addRain 45 = .ok (.aload_n 0, 1) := by decide +kernel
theorem dX4_addRain_46 : decode cX4_addRain 46 = .ok (.dup, 1) := by decide +kernel
theorem dX4_addRain_47 : decode cX4_addRain 47 = .ok (.getfield 49, 3) := by decide +kernel
theorem dX4_addRain_50 : decode cX4_addRain 50 = .ok (.iconst 1, 1) := by decide +kernel
theorem dX4_addRain_51 : decode cX4_addRain 51 = .ok (.iadd, 1) := by decide +kernel
theorem dX4_addRain_52 : decode cX4_addRain 52 = .ok (.putfield 49, 3) := by decide +kernel
theorem dX4_addRain_55 : decode cX4_addRain 55 = .ok (.return_, 1) := by decide +kernel
theorem dX4_addCall_0 : decode cX4_addCall 0 = .ok (.aload_n 0, 1) := by decide +kernel
theorem dX4_addCall_1 : decode cX4_addCall 1 = .ok (.getfield 52, 3) := by decide +kernel
theorem dX4_addCall_4 : decode cX4_addCall 4 = .ok (.bipush 16, 2) := by decide +kernel
theorem dX4_addCall_6 : decode cX4_addCall 6 = .ok (.if_icmp .ge 97, 3) := by decide +kernel
theorem dX4_addCall_9 : decode cX4_addCall 9 = .ok (.aload_n 0, 1) := by decide +kernel
theorem dX4_addCall_10 : decode cX4_addCall 10 = .ok (.getfield 29, 3) := by decide +kernel
theorem dX4_addCall_13 : decode cX4_addCall 13 = .ok (.aload_n 0, 1) := by decide +kernel
theorem dX4_addCall_14 : decode cX4_addCall 14 = .ok (.getfield 52, 3) := by decide +kernel
theorem dX4_addCall_17 : decode cX4_addCall 17 = .ok (.aaload, 1) := by decide +kernel
theorem dX4_addCall_18 : decode cX4_addCall 18 = .ok (.astore 6, 2) := by decide +kernel
theorem dX4_addCall_20 : decode cX4_addCall 20 = .ok (.aload_n 0, 1) := by decide +kernel
theorem dX4_addCall_21 : decode cX4_addCall 21 = .ok (.dup, 1) := by decide +kernel
theorem dX4_addCall_22 : decode cX4_addCall 22 = .ok (.getfield 52, 3) := by decide +kernel
theorem dX4_addCall_25 : decode cX4_addCall 25 = .ok (.iconst 1, 1) := by decide +kernel
theorem dX4_addCall_26 : decode cX4_addCall 26 = .ok (.iadd, 1) := by decide +kernel
theorem dX4_addCall_27 : decode cX4_addCall 27 = .ok (.putfield 52, 3) := by decide +kernel
theorem dX4_addCall_30 : decode cX4_addCall 30 = .ok (.aload 6, 2) := by decide +kernel
theorem dX4_addCall_32 : decode cX4_addCall 32 = .ok (.iload_n 1, 1) := by decide +kernel
theorem dX4_addCall_33 : decode cX4_addCall 33 = .ok (.putfield 93, 3) := by decide +kernel
theorem dX4_addCall_36 : decode cX4_addCall 36 = .ok (.aload 6, 2) := by decide +kernel
theorem dX4_addCall_38 : decode cX4_addCall 38 = .ok (.iload_n 2, 1) := by decide +kernel
theorem dX4_addCall_39 : decode cX4_addCall 39 = .ok (.putfield 96, 3) := by decide +kernel
theorem dX4_addCall_42 : decode cX4_addCall 42 = .ok (.aload 6, 2) := by decide +kernel
theorem dX4_addCall_44 : decode cX4_addCall 44 = .ok (.iload_n 3, 1) := by decide +kernel
theorem dX4_addCall_45 : decode cX4_addCall 45 = .ok (.putfield 99, 3) := by decide +kernel
theorem dX4_addCall_48 : decode cX4_addCall 48 = .ok (.aload 6, 2) := by decide +kernel
theorem dX4_addCall_50 : decode cX4_addCall 50 = .ok (.aload_n 0, 1) := by decide +kernel
theorem dX4_addCall_51 : decode cX4_addCall 51 = .ok (.getfield 9, 3) := by decide +kernel
theorem dX4_addCall_54 : decode cX4_addCall 54 = .ok (.iconst 3, 1) := by decide +kernel
theorem dX4_addCall_55 : decode cX4_addCall 55 = .ok (.iaload, 1) := by decide +kernel
theorem dX4_addCall_56 : decode cX4_addCall 56 = .ok (.iload 4, 2) := by decide +kernel
theorem dX4_addCall_58 : decode cX4_addCall 58 = .ok (.iadd, 1) := by decide +kernel
theorem dX4_addCall_59 : decode cX4_addCall 59 = .ok (.putfield 102, 3) := by decide +kernel
theorem dX4_addCall_62 : decode cX4_addCall 62 = .ok (.aload 6, 2) := by decide +kernel
theorem dX4_addCall_64 : decode cX4_addCall 64 = .ok (.iload 5, 2) := by decide +kernel
theorem dX4_addCall_66 : decode cX4_addCall 66 = .ok (.putfield 105, 3) := by decide +kernel
theorem dX4_addCall_69 : decode cX4_addCall 69 = .ok (.aload 6, 2) := by decide +kernel
theorem dX4_addCall_71 : decode cX4_addCall 71 = .ok (.iconst 0, 1) := by decide +kernel
theorem dX4_addCall_72 : decode cX4_addCall 72 = .ok (.putfield 108, 3) := by decide +kernel
theorem dX4_addCall_75 : decode cX4_addCall 75 = .ok (.aload 6, 2) := by decide +kernel
theorem dX4_addCall_77 : decode cX4_addCall 77 = .ok (.aload_n 0, 1) := by decide +kernel
theorem dX4_addCall_78 : decode cX4_addCall 78 = .ok (.getfield 39, 3) := by decide +kernel
theorem dX4_addCall_81 : decode cX4_addCall 81 = .ok (.putfield 111, 3) := by decide +kernel
theorem dX4_addCall_84 : decode cX4_addCall 84 = .ok (.aload 6, 2) := by decide +kernel
theorem dX4_addCall_86 : decode cX4_addCall 86 = .ok (.iconst (-1), 1) := by decide +kernel
theorem dX4_addCall_87 : decode cX4_addCall 87 = .ok (.putfield 114, 3) := by decide +kernel
theorem dX4_addCall_90 : decode cX4_addCall 90 = .ok (.aload 6, 2) := by decide +kernel
theorem dX4_addCall_92 : decode cX4_addCall 92 = .ok (.iconst 0, 1) := by decide +kernel
theorem dX4_addCall_93 : decode cX4_addCall 93 = .ok (.putfield 117, 3) := by decide +kernel
theorem dX4_addCall_96 : decode cX4_addCall 96 = .ok (.aload_n 0, 1) := by decide +kernel
theorem dX4_addCall_97 : decode cX4_addCall 97 = .ok (.aload 6, 2) := by decide +kernel
theorem dX4_addCall_99 : decode cX4_addCall 99 = .ok (.invokevirtual 120, 3) := by decide +kernel
theorem dX4_addCall_102 : decode cX4_addCall 102 = .ok (.pop, 1) := by decide +kernel
theorem dX4_addCall_103 : decode cX4_addCall 103 = .ok (.return_, 1) := by decide +kernel
theorem dX4_tripOf_0 : decode cX4_tripOf 0 = .ok (.aload_n 0, 1) := by decide +kernel
theorem dX4_tripOf_1 : decode cX4_tripOf 1 = .ok (.getfield 9, 3) := by decide +kernel
theorem dX4_tripOf_4 : decode cX4_tripOf 4 = .ok (.iconst 0, 1) := by decide +kernel
theorem dX4_tripOf_5 : decode cX4_tripOf 5 = .ok (.iaload, 1) := by decide +kernel
theorem dX4_tripOf_6 : decode cX4_tripOf 6 = .ok (.istore_n 2, 1) := by decide +kernel
theorem dX4_tripOf_7 : decode cX4_tripOf 7 = .ok (.iload_n 2, 1) := by decide +kernel
theorem dX4_tripOf_8 : decode cX4_tripOf 8 = .ok (.ifCond .le 18, 3) := by decide +kernel
theorem dX4_tripOf_11 : decode cX4_tripOf 11 = .ok (.iconst 2, 1) := by decide +kernel
theorem dX4_tripOf_12 : decode cX4_tripOf 12 = .ok (.aload_n 1, 1) := by decide +kernel
theorem dX4_tripOf_13 : decode cX4_tripOf 13 = .ok (.getfield 124, 3) := by decide +kernel
theorem dX4_tripOf_16 : decode cX4_tripOf 16 = .ok (.imul, 1) := by decide +kernel
theorem dX4_tripOf_17 : decode cX4_tripOf 17 = .ok (.iload_n 2, 1) := by decide +kernel
theorem dX4_tripOf_18 : decode cX4_tripOf 18 = .ok (.iadd, 1) := by decide +kernel
theorem dX4_tripOf_19 : decode cX4_tripOf 19 = .ok (.iconst 1, 1) := by decide +kernel
theorem dX4_tripOf_20 : decode cX4_tripOf 20 = .ok (.isub, 1) := by decide +kernel
theorem dX4_tripOf_21 : decode cX4_tripOf 21 = .ok (.iload_n 2, 1) := by decide +kernel
theorem dX4_tripOf_22 : decode cX4_tripOf 22 = .ok (.idiv, 1) := by decide +kernel
theorem dX4_tripOf_23 : decode cX4_tripOf 23 = .ok (.goto 4, 3) := by decide +kernel
theorem dX4_tripOf_26 : decode cX4_tripOf 26 = .ok (.iconst 0, 1) := by decide +kernel
theorem dX4_tripOf_27 : decode cX4_tripOf 27 = .ok (.ireturn, 1) := by decide +kernel
theorem dX4_fadeIn_0 : decode cX4_fadeIn 0 = .ok (.iconst 0, 1) := by decide +kernel
theorem dX4_fadeIn_1 : decode cX4_fadeIn 1 = .ok (.istore_n 3, 1) := by decide +kernel
theorem dX4_fadeIn_2 : decode cX4_fadeIn 2 = .ok (.iconst 0, 1) := by decide +kernel
theorem dX4_fadeIn_3 : decode cX4_fadeIn 3 = .ok (.istore 4, 2) := by decide +kernel
theorem dX4_fadeIn_5 : decode cX4_fadeIn 5 = .ok (.iload 4, 2) := by decide +kernel
theorem dX4_fadeIn_7 : decode cX4_fadeIn 7 = .ok (.aload_n 0, 1) := by decide +kernel
theorem dX4_fadeIn_8 : decode cX4_fadeIn 8 = .ok (.getfield 49, 3) := by decide +kernel
theorem dX4_fadeIn_11 : decode cX4_fadeIn 11 = .ok (.if_icmp .ge 52, 3) := by decide +kernel
theorem dX4_fadeIn_14 : decode cX4_fadeIn 14 = .ok (.aload_n 0, 1) := by decide +kernel
theorem dX4_fadeIn_15 : decode cX4_fadeIn 15 = .ok (.getfield 23, 3) := by decide +kernel
theorem dX4_fadeIn_18 : decode cX4_fadeIn 18 = .ok (.iload 4, 2) := by decide +kernel
theorem dX4_fadeIn_20 : decode cX4_fadeIn 20 = .ok (.aaload, 1) := by decide +kernel
theorem dX4_fadeIn_21 : decode cX4_fadeIn 21 = .ok (.astore 5, 2) := by decide +kernel
theorem dX4_fadeIn_23 : decode cX4_fadeIn 23 = .ok (.aload 5, 2) := by decide +kernel
theorem dX4_fadeIn_25 : decode cX4_fadeIn 25 = .ok (.getfield 81, 3) := by decide +kernel
theorem dX4_fadeIn_28 : decode cX4_fadeIn 28 = .ok (.iload_n 1, 1) := by decide +kernel
theorem dX4_fadeIn_29 : decode cX4_fadeIn 29 = .ok (.if_icmp .ne 28, 3) := by decide +kernel
theorem dX4_fadeIn_32 : decode cX4_fadeIn 32 = .ok (.iload_n 2, 1) := by decide +kernel
theorem dX4_fadeIn_33 : decode cX4_fadeIn 33 = .ok (.aload 5, 2) := by decide +kernel
theorem dX4_fadeIn_35 : decode cX4_fadeIn 35 = .ok (.getfield 84, 3) := by decide +kernel
theorem dX4_fadeIn_38 : decode cX4_fadeIn 38 = .ok (.aload 5, 2) := by decide +kernel
theorem dX4_fadeIn_40 : decode cX4_fadeIn 40 = .ok (.getfield 87, 3) := by decide +kernel
theorem dX4_fadeIn_43 : decode cX4_fadeIn 43 = .ok (.invokestatic 127, 3) := by decide +kernel
theorem dX4_fadeIn_46 : decode cX4_fadeIn 46 = .ok (.ifCond .eq 11, 3) := by decide +kernel
theorem dX4_fadeIn_49 : decode cX4_fadeIn 49 = .ok (.iload_n 3, 1) := by decide +kernel
theorem dX4_fadeIn_50 : decode cX4_fadeIn 50 = .ok (.aload 5, 2) := by decide +kernel
theorem dX4_fadeIn_52 : decode cX4_fadeIn 52 = .ok (.getfield 90, 3) := by decide +kernel
theorem dX4_fadeIn_55 : decode cX4_fadeIn 55 = .ok (.iadd, 1) := by decide +kernel
theorem dX4_fadeIn_56 : decode cX4_fadeIn 56 = .ok (.istore_n 3, 1) := by decide +kernel
theorem dX4_fadeIn_57 : decode cX4_fadeIn 57 = .ok (.iinc 4 1, 3) := by decide +kernel
theorem dX4_fadeIn_60 : decode cX4_fadeIn 60 = .ok (.goto (-55), 3) := by decide +kernel
theorem dX4_fadeIn_63 : decode cX4_fadeIn 63 = .ok (.iload_n 3, 1) := by decide +kernel
theorem dX4_fadeIn_64 : decode cX4_fadeIn 64 = .ok (.ireturn, 1) := by decide +kernel
theorem dX4_nextPower_0 : decode cX4_nextPower 0 = .ok (.aload_n 0, 1) := by decide +kernel
theorem dX4_nextPower_1 : decode cX4_nextPower 1 = .ok (.getfield 9, 3) := by decide +kernel
theorem dX4_nextPower_4 : decode cX4_nextPower 4 = .ok (.iconst 5, 1) := by decide +kernel
theorem dX4_nextPower_5 : decode cX4_nextPower 5 = .ok (.iaload, 1) := by decide +kernel
theorem dX4_nextPower_6 : decode cX4_nextPower 6 = .ok (.istore 4, 2) := by decide +kernel
theorem dX4_nextPower_8 : decode cX4_nextPower 8 = .ok (.aload_n 0, 1) := by decide +kernel
theorem dX4_nextPower_9 : decode cX4_nextPower 9 = .ok (.getfield 17, 3) := by decide +kernel
theorem dX4_nextPower_12 : decode cX4_nextPower 12 = .ok (.iload_n 1, 1) := by decide +kernel
theorem dX4_nextPower_13 : decode cX4_nextPower 13 = .ok (.aaload, 1) := by decide +kernel
theorem dX4_nextPower_14 : decode cX4_nextPower 14 = .ok (.getfield 131, 3) := by decide +kernel
theorem dX4_nextPower_17 : decode cX4_nextPower 17 = .ok (.aload_n 0, 1) := by decide +kernel
theorem dX4_nextPower_18 : decode cX4_nextPower 18 = .ok (.iload_n 1, 1) := by decide +kernel
theorem dX4_nextPower_19 : decode cX4_nextPower 19 = .ok (.iload_n 3, 1) := by decide +kernel
theorem dX4_nextPower_20 : decode cX4_nextPower 20 = .ok (.invokevirtual 134, 3) := by decide +kernel
theorem dX4_nextPower_23 : decode cX4_nextPower 23 = .ok (.iadd, 1) := by decide +kernel
theorem dX4_nextPower_24 : decode cX4_nextPower 24 = .ok (.aload_n 0, 1) := by decide +kernel
theorem dX4_nextPower_25 : decode cX4_nextPower 25 = .ok (.getfield 17, 3) := by decide +kernel
theorem dX4_nextPower_28 : decode cX4_nextPower 28 = .ok (.iload_n 1, 1) := by decide +kernel
theorem dX4_nextPower_29 : decode cX4_nextPower 29 = .ok (.aaload, 1) := by decide +kernel
theorem dX4_nextPower_30 : decode cX4_nextPower 30 = .ok (.getfield 138, 3) := by decide +kernel
theorem dX4_nextPower_33 : decode cX4_nextPower 33 = .ok (.invokestatic 141, 3) := by decide +kernel
theorem dX4_nextPower_36 : decode cX4_nextPower 36 = .ok (.istore 5, 2) := by decide +kernel
theorem dX4_nextPower_38 : decode cX4_nextPower 38 = .ok (.iload_n 2, 1) := by decide +kernel
theorem dX4_nextPower_39 : decode cX4_nextPower 39 = .ok (.iload 4, 2) := by decide +kernel
theorem dX4_nextPower_41 : decode cX4_nextPower 41 = .ok (.ineg, 1) := by decide +kernel
theorem dX4_nextPower_42 : decode cX4_nextPower 42 = .ok (.iload 4, 2) := by decide +kernel
theorem dX4_nextPower_44 : decode cX4_nextPower 44 = .ok (.iload 5, 2) := by decide +kernel
theorem dX4_nextPower_46 : decode cX4_nextPower 46 = .ok (.iload_n 2, 1) := by decide +kernel
theorem dX4_nextPower_47 : decode cX4_nextPower 47 = .ok (.isub, 1) := by decide +kernel
theorem dX4_nextPower_48 : decode cX4_nextPower 48 = .ok (.invokestatic 141, 3) := by decide +kernel
theorem dX4_nextPower_51 : decode cX4_nextPower 51 = .ok (.invokestatic 146, 3) := by decide +kernel
theorem dX4_nextPower_54 : decode cX4_nextPower 54 = .ok (.iadd, 1) := by decide +kernel
theorem dX4_nextPower_55 : decode cX4_nextPower 55 = .ok (.ireturn, 1) := by decide +kernel
theorem dX4_marginWith_0 : decode cX4_marginWith 0 = .ok (.iload_n 2, 1) := by decide +kernel
theorem dX4_marginWith_1 : decode cX4_marginWith 1 = .ok (.aload_n 0, 1) := by decide +kernel
theorem dX4_marginWith_2 : decode cX4_marginWith 2 = .ok (.aload_n 1, 1) := by decide +kernel
theorem dX4_marginWith_3 : decode cX4_marginWith 3 = .ok (.getfield 93, 3) := by decide +kernel
theorem dX4_marginWith_6 : decode cX4_marginWith 6 = .ok (.iload_n 3, 1) := by decide +kernel
theorem dX4_marginWith_7 : decode cX4_marginWith 7 = .ok (.invokevirtual 134, 3) := by decide +kernel
theorem dX4_marginWith_10 : decode cX4_marginWith 10 = .ok (.isub, 1) := by decide +kernel
theorem dX4_marginWith_11 : decode cX4_marginWith 11 = .ok (.aload_n 0, 1) := by decide +kernel
theorem dX4_marginWith_12 : decode cX4_marginWith 12 = .ok (.aload_n 1, 1) := by decide +kernel
theorem dX4_marginWith_13 : decode cX4_marginWith 13 = .ok (.getfield 96, 3) := by decide +kernel
theorem dX4_marginWith_16 : decode cX4_marginWith 16 = .ok (.iload_n 3, 1) := by decide +kernel
theorem dX4_marginWith_17 : decode cX4_marginWith 17 = .ok (.invokevirtual 134, 3) := by decide +kernel
theorem dX4_marginWith_20 : decode cX4_marginWith 20 = .ok (.isub, 1) := by decide +kernel
theorem dX4_marginWith_21 : decode cX4_marginWith 21 = .ok (.aload_n 0, 1) := by decide +kernel
theorem dX4_marginWith_22 : decode cX4_marginWith 22 = .ok (.getfield 9, 3) := by decide +kernel
theorem dX4_marginWith_25 : decode cX4_marginWith 25 = .ok (.iconst 4, 1) := by decide +kernel
theorem dX4_marginWith_26 : decode cX4_marginWith 26 = .ok (.iaload, 1) := by decide +kernel
theorem dX4_marginWith_27 : decode cX4_marginWith 27 = .ok (.isub, 1) := by decide +kernel
theorem dX4_marginWith_28 : decode cX4_marginWith 28 = .ok (.ireturn, 1) := by decide +kernel
theorem dX4_presentMargin_0 : decode cX4_presentMargin 0 = .ok (.aload_n 0, 1) := by decide +kernel
theorem dX4_presentMargin_1 : decode cX4_presentMargin 1 = .ok (.aload_n 1, 1) := by decide +kernel
theorem dX4_presentMargin_2 : decode cX4_presentMargin 2 = .ok (.aload_n 0, 1) := by decide +kernel
theorem dX4_presentMargin_3 : decode cX4_presentMargin 3 = .ok (.getfield 17, 3) := by decide +kernel
theorem dX4_presentMargin_6 : decode cX4_presentMargin 6 = .ok (.aload_n 1, 1) := by decide +kernel
theorem dX4_presentMargin_7 : decode cX4_presentMargin 7 = .ok (.getfield 93, 3) := by decide +kernel
theorem dX4_presentMargin_10 : decode cX4_presentMargin 10 = .ok (.aaload, 1) := by decide +kernel
theorem dX4_presentMargin_11 : decode cX4_presentMargin 11 = .ok (.getfield 149, 3) := by decide +kernel
theorem dX4_presentMargin_14 : decode cX4_presentMargin 14 = .ok (.aload_n 0, 1) := by decide +kernel
theorem dX4_presentMargin_15 : decode cX4_presentMargin 15 = .ok (.getfield 39, 3) := by decide +kernel
theorem dX4_presentMargin_18 : decode cX4_presentMargin 18 = .ok (.invokevirtual 152, 3) := by decide +kernel
theorem dX4_presentMargin_21 : decode cX4_presentMargin 21 = .ok (.ireturn, 1) := by decide +kernel
theorem dX4_degradedAmong_0 : decode cX4_degradedAmong 0 = .ok (.iconst 0, 1) := by decide +kernel
theorem dX4_degradedAmong_1 : decode cX4_degradedAmong 1 = .ok (.istore_n 2, 1) := by decide +kernel
theorem dX4_degradedAmong_2 : decode cX4_degradedAmong 2 = .ok (.iconst 0, 1) := by decide +kernel
theorem dX4_degradedAmong_3 : decode cX4_degradedAmong 3 = .ok (.istore_n 3, 1) := by decide +kernel
theorem dX4_degradedAmong_4 : decode cX4_degradedAmong 4 = .ok (.iload_n 3, 1) := by decide +kernel
theorem dX4_degradedAmong_5 : decode cX4_degradedAmong 5 = .ok (.aload_n 0, 1) := by decide +kernel
theorem dX4_degradedAmong_6 : decode cX4_degradedAmong 6 = .ok (.getfield 52, 3) := by decide +kernel
theorem dX4_degradedAmong_9 : decode cX4_degradedAmong 9 = .ok (.if_icmp .ge 36, 3) := by decide +kernel
theorem dX4_degradedAmong_12 : decode cX4_degradedAmong 12 = .ok (.iload_n 1, 1) := by decide +kernel
theorem dX4_degradedAmong_13 : decode cX4_degradedAmong 13 = .ok (.iload_n 3, 1) := by decide +kernel
theorem dX4_degradedAmong_14 : decode cX4_degradedAmong 14 = .ok (.invokestatic 156, 3) := by decide +kernel
theorem dX4_degradedAmong_17 : decode cX4_degradedAmong 17 = .ok (.ifCond .eq 22, 3) := by decide +kernel
theorem dX4_degradedAmong_20 : decode cX4_degradedAmong 20 = .ok (.aload_n 0, 1) := by decide +kernel
theorem dX4_degradedAmong_21 : decode cX4_degradedAmong 21 = .ok (.aload_n 0, 1) := by decide +kernel
theorem dX4_degradedAmong_22 : decode cX4_degradedAmong 22 = .ok (.getfield 29, 3) := by decide +kernel
theorem dX4_degradedAmong_25 : decode cX4_degradedAmong 25 = .ok (.iload_n 3, 1) := by decide +kernel
theorem dX4_degradedAmong_26 : decode cX4_degradedAmong 26 = .ok (.aaload, 1) := by decide +kernel
theorem dX4_degradedAmong_27 : decode cX4_degradedAmong 27 = .ok (.invokevirtual 160, 3) := by decide +kernel
theorem dX4_degradedAmong_30 : decode cX4_degradedAmong 30 = .ok (.ifCond .ge 9, 3) := by decide +kernel
theorem dX4_degradedAmong_33 : decode cX4_degradedAmong 33 = .ok (.iload_n 2, 1) := by decide +kernel
theorem dX4_degradedAmong_34 : decode cX4_degradedAmong 34 = .ok (.iconst 1, 1) := by decide +kernel
theorem dX4_degradedAmong_35 : decode cX4_degradedAmong 35 = .ok (.iload_n 3, 1) := by decide +kernel
theorem dX4_degradedAmong_36 : decode cX4_degradedAmong 36 = .ok (.ishl, 1) := by decide +kernel
theorem dX4_degradedAmong_37 : decode cX4_degradedAmong 37 = .ok (.ior, 1) := by decide +kernel
theorem dX4_degradedAmong_38 : decode cX4_degradedAmong 38 = .ok (.istore_n 2, 1) := by decide +kernel
theorem dX4_degradedAmong_39 : decode cX4_degradedAmong 39 = .ok (.iinc 3 1, 3) := by decide +kernel
theorem dX4_degradedAmong_42 : decode cX4_degradedAmong 42 = .ok (.goto (-38), 3) := by decide +kernel
theorem dX4_degradedAmong_45 : decode cX4_degradedAmong 45 = .ok (.iload_n 2, 1) := by decide +kernel
theorem dX4_degradedAmong_46 : decode cX4_degradedAmong 46 = .ok (.ireturn, 1) := by decide +kernel
theorem dX4_isIn_0 : decode cX4_isIn 0 = .ok (.iload_n 0, 1) := by decide +kernel
theorem dX4_isIn_1 : decode cX4_isIn 1 = .ok (.iload_n 1, 1) := by decide +kernel
theorem dX4_isIn_2 : decode cX4_isIn 2 = .ok (.ishr, 1) := by decide +kernel
theorem dX4_isIn_3 : decode cX4_isIn 3 = .ok (.iconst 1, 1) := by decide +kernel
theorem dX4_isIn_4 : decode cX4_isIn 4 = .ok (.iand, 1) := by decide +kernel
theorem dX4_isIn_5 : decode cX4_isIn 5 = .ok (.ifCond .eq 7, 3) := by decide +kernel
theorem dX4_isIn_8 : decode cX4_isIn 8 = .ok (.iconst 1, 1) := by decide +kernel
theorem dX4_isIn_9 : decode cX4_isIn 9 = .ok (.goto 4, 3) := by decide +kernel
theorem dX4_isIn_12 : decode cX4_isIn 12 = .ok (.iconst 0, 1) := by decide +kernel
theorem dX4_isIn_13 : decode cX4_isIn 13 = .ok (.ireturn, 1) := by decide +kernel
theorem dX4_callsIn_0 : decode cX4_callsIn 0 = .ok (.iconst 0, 1) := by decide +kernel
theorem dX4_callsIn_1 : decode cX4_callsIn 1 = .ok (.istore_n 2, 1) := by decide +kernel
theorem dX4_callsIn_2 : decode cX4_callsIn 2 = .ok (.iconst 0, 1) := by decide +kernel
theorem dX4_callsIn_3 : decode cX4_callsIn 3 = .ok (.istore_n 3, 1) := by decide +kernel
theorem dX4_callsIn_4 : decode cX4_callsIn 4 = .ok (.iload_n 3, 1) := by decide +kernel
theorem dX4_callsIn_5 : decode cX4_callsIn 5 = .ok (.aload_n 0, 1) := by decide +kernel
theorem dX4_callsIn_6 : decode cX4_callsIn 6 = .ok (.getfield 52, 3) := by decide +kernel
theorem dX4_callsIn_9 : decode cX4_callsIn 9 = .ok (.if_icmp .ge 28, 3) := by decide +kernel
theorem dX4_callsIn_12 : decode cX4_callsIn 12 = .ok (.aload_n 0, 1) := by decide +kernel
theorem dX4_callsIn_13 : decode cX4_callsIn 13 = .ok (.getfield 29, 3) := by decide +kernel
theorem dX4_callsIn_16 : decode cX4_callsIn 16 = .ok (.iload_n 3, 1) := by decide +kernel
theorem dX4_callsIn_17 : decode cX4_callsIn 17 = .ok (.aaload, 1) := by decide +kernel
theorem dX4_callsIn_18 : decode cX4_callsIn 18 = .ok (.getfield 108, 3) := by decide +kernel
theorem dX4_callsIn_21 : decode cX4_callsIn 21 = .ok (.iload_n 1, 1) := by decide +kernel
theorem dX4_callsIn_22 : decode cX4_callsIn 22 = .ok (.if_icmp .ne 9, 3) := by decide +kernel
theorem dX4_callsIn_25 : decode cX4_callsIn 25 = .ok (.iload_n 2, 1) := by decide +kernel
theorem dX4_callsIn_26 : decode cX4_callsIn 26 = .ok (.iconst 1, 1) := by decide +kernel
theorem dX4_callsIn_27 : decode cX4_callsIn 27 = .ok (.iload_n 3, 1) := by decide +kernel
theorem dX4_callsIn_28 : decode cX4_callsIn 28 = .ok (.ishl, 1) := by decide +kernel
theorem dX4_callsIn_29 : decode cX4_callsIn 29 = .ok (.ior, 1) := by decide +kernel
theorem dX4_callsIn_30 : decode cX4_callsIn 30 = .ok (.istore_n 2, 1) := by decide +kernel
theorem dX4_callsIn_31 : decode cX4_callsIn 31 = .ok (.iinc 3 1, 3) := by decide +kernel
theorem dX4_callsIn_34 : decode cX4_callsIn 34 = .ok (.goto (-30), 3) := by decide +kernel
theorem dX4_callsIn_37 : decode cX4_callsIn 37 = .ok (.iload_n 2, 1) := by decide +kernel
theorem dX4_callsIn_38 : decode cX4_callsIn 38 = .ok (.ireturn, 1) := by decide +kernel
theorem dX4_firstInOrder_0 : decode cX4_firstInOrder 0 = .ok (.iconst (-1), 1) := by decide +kernel
theorem dX4_firstInOrder_1 : decode cX4_firstInOrder 1 = .ok (.istore_n 2, 1) := by decide +kernel
theorem dX4_firstInOrder_2 : decode cX4_firstInOrder 2 = .ok (.iconst 0, 1) := by decide +kernel
theorem dX4_firstInOrder_3 : decode cX4_firstInOrder 3 = .ok (.istore_n 3, 1) := by decide +kernel
theorem dX4_firstInOrder_4 : decode cX4_firstInOrder 4 = .ok (.iload_n 3, 1) := by decide +kernel
theorem dX4_firstInOrder_5 : decode cX4_firstInOrder 5 = .ok (.aload_n 0, 1) := by decide +kernel
theorem dX4_firstInOrder_6 : decode cX4_firstInOrder 6 = .ok (.getfield 52, 3) := by decide +kernel
theorem dX4_firstInOrder_9 : decode cX4_firstInOrder 9 = .ok (.if_icmp .ge 45, 3) := by decide +kernel
theorem dX4_firstInOrder_12 : decode cX4_firstInOrder 12 = .ok (.iload_n 1, 1) := by decide +kernel
theorem dX4_firstInOrder_13 : decode cX4_firstInOrder 13 = .ok (.iload_n 3, 1) := by decide +kernel
theorem dX4_firstInOrder_14 : decode cX4_firstInOrder 14 = .ok (.invokestatic 156, 3) := by decide +kernel
theorem dX4_firstInOrder_17 : decode cX4_firstInOrder 17 = .ok (.ifCond .eq 31, 3) := by decide +kernel
theorem dX4_firstInOrder_20 : decode cX4_firstInOrder 20 = .ok (.iload_n 2, 1) := by decide +kernel
theorem dX4_firstInOrder_21 : decode cX4_firstInOrder 21 = .ok (.iconst (-1), 1) := by decide +kernel
theorem dX4_firstInOrder_22 : decode cX4_firstInOrder 22 = .ok (.if_icmp .eq 24, 3) := by decide +kernel
theorem dX4_firstInOrder_25 : decode cX4_firstInOrder 25 = .ok (.aload_n 0, 1) := by decide +kernel
theorem dX4_firstInOrder_26 : decode cX4_firstInOrder 26 = .ok (.getfield 29, 3) := by decide +kernel
theorem dX4_firstInOrder_29 : decode cX4_firstInOrder 29 = .ok (.iload_n 3, 1) := by decide +kernel
theorem dX4_firstInOrder_30 : decode cX4_firstInOrder 30 = .ok (.aaload, 1) := by decide +kernel
theorem dX4_firstInOrder_31 : decode cX4_firstInOrder 31 = .ok (.getfield 99, 3) := by decide +kernel
theorem dX4_firstInOrder_34 : decode cX4_firstInOrder 34 = .ok (.aload_n 0, 1) := by decide +kernel
theorem dX4_firstInOrder_35 : decode cX4_firstInOrder 35 = .ok (.getfield 29, 3) := by decide +kernel
theorem dX4_firstInOrder_38 : decode cX4_firstInOrder 38 = .ok (.iload_n 2, 1) := by decide +kernel
theorem dX4_firstInOrder_39 : decode cX4_firstInOrder 39 = .ok (.aaload, 1) := by decide +kernel
theorem dX4_firstInOrder_40 : decode cX4_firstInOrder 40 = .ok (.getfield 99, 3) := by decide +kernel
theorem dX4_firstInOrder_43 : decode cX4_firstInOrder 43 = .ok (.if_icmp .le 5, 3) := by decide +kernel
theorem dX4_firstInOrder_46 : decode cX4_firstInOrder 46 = .ok (.iload_n 3, 1) := by decide +kernel
theorem dX4_firstInOrder_47 : decode cX4_firstInOrder 47 = .ok (.istore_n 2, 1) := by decide +kernel
theorem dX4_firstInOrder_48 : decode cX4_firstInOrder 48 = .ok (.iinc 3 1, 3) := by decide +kernel
theorem dX4_firstInOrder_51 : decode cX4_firstInOrder 51 = .ok (.goto (-47), 3) := by decide +kernel
theorem dX4_firstInOrder_54 : decode cX4_firstInOrder 54 = .ok (.iload_n 2, 1) := by decide +kernel
theorem dX4_firstInOrder_55 : decode cX4_firstInOrder 55 = .ok (.ireturn, 1) := by decide +kernel
theorem dX4_burstsBefore_0 : decode cX4_burstsBefore 0 = .ok (.iconst 0, 1) := by decide +kernel
theorem dX4_burstsBefore_1 : decode cX4_burstsBefore 1 = .ok (.istore_n 3, 1) := by decide +kernel
theorem dX4_burstsBefore_2 : decode cX4_burstsBefore 2 = .ok (.iconst 0, 1) := by decide +kernel
theorem dX4_burstsBefore_3 : decode cX4_burstsBefore 3 = .ok (.istore 4, 2) := by decide +kernel
theorem dX4_burstsBefore_5 : decode cX4_burstsBefore 5 = .ok (.iload 4, 2) := by decide +kernel
theorem dX4_burstsBefore_7 : decode cX4_burstsBefore 7 = .ok (.aload_n 0, 1) := by decide +kernel
theorem dX4_burstsBefore_8 : decode cX4_burstsBefore 8 = .ok (.getfield 52, 3) := by decide +kernel
theorem dX4_burstsBefore_11 : decode cX4_burstsBefore 11 = .ok (.if_icmp .ge 40, 3) := by decide +kernel
theorem dX4_burstsBefore_14 : decode cX4_burstsBefore 14 = .ok (.aload_n 0, 1) := by decide +kernel
theorem dX4_burstsBefore_15 : decode cX4_burstsBefore 15 = .ok (.getfield 29, 3) := by decide +kernel
theorem dX4_burstsBefore_18 : decode cX4_burstsBefore 18 = .ok (.iload 4, 2) := by decide +kernel
theorem dX4_burstsBefore_20 : decode cX4_burstsBefore 20 = .ok (.aaload, 1) := by decide +kernel
theorem dX4_burstsBefore_21 : decode cX4_burstsBefore 21 = .ok (.iload_n 1, 1) := by decide +kernel
theorem dX4_burstsBefore_22 : decode cX4_burstsBefore 22 = .ok (.invokevirtual 164, 3) := by decide +kernel
theorem dX4_burstsBefore_25 : decode cX4_burstsBefore 25 = .ok (.ifCond .eq 20, 3) := by decide +kernel
theorem dX4_burstsBefore_28 : decode cX4_burstsBefore 28 = .ok (.aload_n 0, 1) := by decide +kernel
theorem dX4_burstsBefore_29 : decode cX4_burstsBefore 29 = .ok (.getfield 29, 3) := by decide +kernel
theorem dX4_burstsBefore_32 : decode cX4_burstsBefore 32 = .ok (.iload 4, 2) := by decide +kernel
theorem dX4_burstsBefore_34 : decode cX4_burstsBefore 34 = .ok (.aaload, 1) := by decide +kernel
theorem dX4_burstsBefore_35 : decode cX4_burstsBefore 35 = .ok (.getfield 168, 3) := by decide +kernel
theorem dX4_burstsBefore_38 : decode cX4_burstsBefore 38 = .ok (.iload_n 2, 1) := by decide +kernel
theorem dX4_burstsBefore_39 : decode cX4_burstsBefore 39 = .ok (.if_icmp .ge 6, 3) := by decide +kernel
theorem dX4_burstsBefore_42 : decode cX4_burstsBefore 42 = .ok (.iinc 3 1, 3) := by decide +kernel
theorem dX4_burstsBefore_45 : decode cX4_burstsBefore 45 = .ok (.iinc 4 1, 3) := by decide +kernel
theorem dX4_burstsBefore_48 : decode cX4_burstsBefore 48 = .ok (.goto (-43), 3) := by decide +kernel
theorem dX4_burstsBefore_51 : decode cX4_burstsBefore 51 = .ok (.iload_n 3, 1) := by decide +kernel
theorem dX4_burstsBefore_52 : decode cX4_burstsBefore 52 = .ok (.ireturn, 1) := by decide +kernel
theorem dX4_firstStart_0 : decode cX4_firstStart 0 = .ok (.aload_n 0, 1) := by decide +kernel
theorem dX4_firstStart_1 : decode cX4_firstStart 1 = .ok (.getfield 9, 3) := by decide +kernel
theorem dX4_firstStart_4 : decode cX4_firstStart 4 = .ok (.iconst 2, 1) := by decide +kernel
theorem dX4_firstStart_5 : decode cX4_firstStart 5 = .ok (.iaload, 1) := by decide +kernel
theorem dX4_firstStart_6 : decode cX4_firstStart 6 = .ok (.aload_n 0, 1) := by decide +kernel
theorem dX4_firstStart_7 : decode cX4_firstStart 7 = .ok (.getfield 9, 3) := by decide +kernel
theorem dX4_firstStart_10 : decode cX4_firstStart 10 = .ok (.iconst 1, 1) := by decide +kernel
theorem dX4_firstStart_11 : decode cX4_firstStart 11 = .ok (.iaload, 1) := by decide +kernel
theorem dX4_firstStart_12 : decode cX4_firstStart 12 = .ok (.iadd, 1) := by decide +kernel
theorem dX4_firstStart_13 : decode cX4_firstStart 13 = .ok (.ireturn, 1) := by decide +kernel
theorem dX4_lastStart_0 : decode cX4_lastStart 0 = .ok (.aload_n 0, 1) := by decide +kernel
theorem dX4_lastStart_1 : decode cX4_lastStart 1 = .ok (.getfield 9, 3) := by decide +kernel
theorem dX4_lastStart_4 : decode cX4_lastStart 4 = .ok (.iconst 0, 1) := by decide +kernel
theorem dX4_lastStart_5 : decode cX4_lastStart 5 = .ok (.iaload, 1) := by decide +kernel
theorem dX4_lastStart_6 : decode cX4_lastStart 6 = .ok (.aload_n 0, 1) := by decide +kernel
theorem dX4_lastStart_7 : decode cX4_lastStart 7 = .ok (.getfield 9, 3) := by decide +kernel
theorem dX4_lastStart_10 : decode cX4_lastStart 10 = .ok (.iconst 1, 1) := by decide +kernel
theorem dX4_lastStart_11 : decode cX4_lastStart 11 = .ok (.iaload, 1) := by decide +kernel
theorem dX4_lastStart_12 : decode cX4_lastStart 12 = .ok (.isub, 1) := by decide +kernel
theorem dX4_lastStart_13 : decode cX4_lastStart 13 = .ok (.aload_n 1, 1) := by decide +kernel
theorem dX4_lastStart_14 : decode cX4_lastStart 14 = .ok (.getfield 102, 3) := by decide +kernel
theorem dX4_lastStart_17 : decode cX4_lastStart 17 = .ok (.isub, 1) := by decide +kernel
theorem dX4_lastStart_18 : decode cX4_lastStart 18 = .ok (.ireturn, 1) := by decide +kernel
theorem dX4_freeBehind_0 : decode cX4_freeBehind 0 = .ok (.aload_n 1, 1) := by decide +kernel
theorem dX4_freeBehind_1 : decode cX4_freeBehind 1 = .ok (.getfield 168, 3) := by decide +kernel
theorem dX4_freeBehind_4 : decode cX4_freeBehind 4 = .ok (.aload_n 1, 1) := by decide +kernel
theorem dX4_freeBehind_5 : decode cX4_freeBehind 5 = .ok (.getfield 102, 3) := by decide +kernel
theorem dX4_freeBehind_8 : decode cX4_freeBehind 8 = .ok (.iadd, 1) := by decide +kernel
theorem dX4_freeBehind_9 : decode cX4_freeBehind 9 = .ok (.aload_n 0, 1) := by decide +kernel
theorem dX4_freeBehind_10 : decode cX4_freeBehind 10 = .ok (.getfield 9, 3) := by decide +kernel
theorem dX4_freeBehind_13 : decode cX4_freeBehind 13 = .ok (.iconst 1, 1) := by decide +kernel
theorem dX4_freeBehind_14 : decode cX4_freeBehind 14 = .ok (.iaload, 1) := by decide +kernel
theorem dX4_freeBehind_15 : decode cX4_freeBehind 15 = .ok (.iadd, 1) := by decide +kernel
theorem dX4_freeBehind_16 : decode cX4_freeBehind 16 = .ok (.ireturn, 1) := by decide +kernel
theorem dX4_callsInTheWay_0 : decode cX4_callsInTheWay 0 = .ok (.iload_n 3, 1) := by decide +kernel
theorem dX4_callsInTheWay_1 : decode cX4_callsInTheWay 1 = .ok (.aload_n 1, 1) := by decide +kernel
theorem dX4_callsInTheWay_2 : decode cX4_callsInTheWay 2 = .ok (.getfield 102, 3) := by decide +kernel
theorem dX4_callsInTheWay_5 : decode cX4_callsInTheWay 5 = .ok (.iadd, 1) := by decide +kernel
theorem dX4_callsInTheWay_6 : decode cX4_callsInTheWay 6 = .ok (.aload_n 0, 1) := by decide +kernel
theorem dX4_callsInTheWay_7 : decode cX4_callsInTheWay 7 = .ok (.getfield 9, 3) := by decide +kernel
theorem dX4_callsInTheWay_10 : decode cX4_callsInTheWay 10 = .ok (.iconst 1, 1) := by decide +kernel
theorem dX4_callsInTheWay_11 : decode cX4_callsInTheWay 11 = .ok (.iaload, 1) := by decide +kernel
theorem dX4_callsInTheWay_12 : decode cX4_callsInTheWay 12 = .ok (.iadd, 1) := by decide +kernel
theorem dX4_callsInTheWay_13 : decode cX4_callsInTheWay 13 = .ok (.istore 4, 2) := by decide +kernel
theorem dX4_callsInTheWay_15 : decode cX4_callsInTheWay 15 = .ok (.iconst 0, 1) := by decide +kernel
theorem dX4_callsInTheWay_16 : decode cX4_callsInTheWay 16 = .ok (.istore 5, 2) := by decide +kernel
theorem dX4_callsInTheWay_18 : decode cX4_callsInTheWay 18 = .ok (.iconst 0, 1) := by decide +kernel
theorem dX4_callsInTheWay_19 : decode cX4_callsInTheWay 19 = .ok (.istore 6, 2) := by decide +kernel
theorem dX4_callsInTheWay_21 : decode cX4_callsInTheWay 21 = .ok (.iload 6, 2) := by decide +kernel
theorem dX4_callsInTheWay_23 : decode cX4_callsInTheWay 23 = .ok (.aload_n 0, 1) := by decide +kernel
theorem dX4_callsInTheWay_24 : decode cX4_callsInTheWay 24 = .ok (.getfield 52, 3) := by decide +kernel
theorem dX4_callsInTheWay_27 : decode cX4_callsInTheWay 27 = .ok (.if_icmp .ge 66, 3) := by decide +kernel
theorem dX4_callsInTheWay_30 : decode cX4_callsInTheWay 30 = .ok (.aload_n 0, 1) := by decide +kernel
theorem dX4_callsInTheWay_31 : decode cX4_callsInTheWay 31 = .ok (.getfield 29, 3) := by decide +kernel
theorem dX4_callsInTheWay_34 : decode cX4_callsInTheWay 34 = .ok (.iload 6, 2) := by decide +kernel
theorem dX4_callsInTheWay_36 : decode cX4_callsInTheWay 36 = .ok (.aaload, 1) := by decide +kernel
theorem dX4_callsInTheWay_37 : decode cX4_callsInTheWay 37 = .ok (.astore 7, 2) := by decide +kernel
theorem dX4_callsInTheWay_39 : decode cX4_callsInTheWay 39 = .ok (.aload 7, 2) := by decide +kernel
theorem dX4_callsInTheWay_41 : decode cX4_callsInTheWay 41 = .ok (.getfield 108, 3) := by decide +kernel
theorem dX4_callsInTheWay_44 : decode cX4_callsInTheWay 44 = .ok (.iconst 1, 1) := by decide +kernel
theorem dX4_callsInTheWay_45 : decode cX4_callsInTheWay 45 = .ok (.if_icmp .ne 42, 3) := by decide +kernel
theorem dX4_callsInTheWay_48 : decode cX4_callsInTheWay 48 = .ok (.iload_n 3, 1) := by decide +kernel
theorem dX4_callsInTheWay_49 : decode cX4_callsInTheWay 49 = .ok (.aload_n 0, 1) := by decide +kernel
theorem dX4_callsInTheWay_50 : decode cX4_callsInTheWay 50 = .ok (.aload 7, 2) := by decide +kernel
theorem dX4_callsInTheWay_52 : decode cX4_callsInTheWay 52 = .ok (.invokevirtual 171, 3) := by decide +kernel
theorem dX4_callsInTheWay_55 : decode cX4_callsInTheWay 55 = .ok (.if_icmp .ge 32, 3) := by decide +kernel
theorem dX4_callsInTheWay_58 : decode cX4_callsInTheWay 58 = .ok (.aload 7, 2) := by decide +kernel
theorem dX4_callsInTheWay_60 : decode cX4_callsInTheWay 60 = .ok (.getfield 168, 3) := by decide +kernel
theorem dX4_callsInTheWay_63 : decode cX4_callsInTheWay 63 = .ok (.iload 4, 2) := by decide +kernel
theorem dX4_callsInTheWay_65 : decode cX4_callsInTheWay 65 = .ok (.if_icmp .ge 22, 3) := by decide +kernel
theorem dX4_callsInTheWay_68 : decode cX4_callsInTheWay 68 = .ok (.aload 7, 2) := by decide +kernel
theorem dX4_callsInTheWay_70 : decode cX4_callsInTheWay 70 = .ok (.aload_n 1, 1) := by decide +kernel
theorem dX4_callsInTheWay_71 : decode cX4_callsInTheWay 71 = .ok (.iload_n 2, 1) := by decide +kernel
theorem dX4_callsInTheWay_72 : decode cX4_callsInTheWay 72 = .ok (.invokevirtual 174, 3) := by decide +kernel
theorem dX4_callsInTheWay_75 : decode cX4_callsInTheWay 75 = .ok (.ifCond .eq 12, 3) := by decide +kernel
theorem dX4_callsInTheWay_78 : decode cX4_callsInTheWay 78 = .ok (.iload 5, 2) := by decide +kernel
theorem dX4_callsInTheWay_80 : decode cX4_callsInTheWay 80 = .ok (.iconst 1, 1) := by decide +kernel
theorem dX4_callsInTheWay_81 : decode cX4_callsInTheWay 81 = .ok (.iload 6, 2) := by decide +kernel
theorem dX4_callsInTheWay_83 : decode cX4_callsInTheWay 83 = .ok (.ishl, 1) := by decide +kernel
theorem dX4_callsInTheWay_84 : decode cX4_callsInTheWay 84 = .ok (.ior, 1) := by decide +kernel
theorem dX4_callsInTheWay_85 : decode cX4_callsInTheWay 85 = .ok (.istore 5, 2) := by decide +kernel
theorem dX4_callsInTheWay_87 : decode cX4_callsInTheWay 87 = .ok (.iinc 6 1, 3) := by decide +kernel
theorem dX4_callsInTheWay_90 : decode cX4_callsInTheWay 90 = .ok (.goto (-69), 3) := by decide +kernel
theorem dX4_callsInTheWay_93 : decode cX4_callsInTheWay 93 = .ok (.iload 5, 2) := by decide +kernel
theorem dX4_callsInTheWay_95 : decode cX4_callsInTheWay 95 = .ok (.ireturn, 1) := by decide +kernel
theorem dX4_leastStart_0 : decode cX4_leastStart 0 = .ok (.aload_n 0, 1) := by decide +kernel
theorem dX4_leastStart_1 : decode cX4_leastStart 1 = .ok (.invokevirtual 178, 3) := by decide +kernel
theorem dX4_leastStart_4 : decode cX4_leastStart 4 = .ok (.istore 4, 2) := by decide +kernel
theorem dX4_leastStart_6 : decode cX4_leastStart 6 = .ok (.iconst 0, 1) := by decide +kernel
theorem dX4_leastStart_7 : decode cX4_leastStart 7 = .ok (.istore 5, 2) := by decide +kernel
theorem dX4_leastStart_9 : decode cX4_leastStart 9 = .ok (.iload 5, 2) := by decide +kernel
theorem dX4_leastStart_11 : decode cX4_leastStart 11 = .ok (.bipush 16, 2) := by decide +kernel
theorem dX4_leastStart_13 : decode cX4_leastStart 13 = .ok (.if_icmp .ge 87, 3) := by decide +kernel
theorem dX4_leastStart_16 : decode cX4_leastStart 16 = .ok (.iload 4, 2) := by decide +kernel
theorem dX4_leastStart_18 : decode cX4_leastStart 18 = .ok (.aload_n 0, 1) := by decide +kernel
theorem dX4_leastStart_19 : decode cX4_leastStart 19 = .ok (.aload_n 1, 1) := by decide +kernel
theorem dX4_leastStart_20 : decode cX4_leastStart 20 = .ok (.invokevirtual 182, 3) := by decide +kernel
theorem dX4_leastStart_23 : decode cX4_leastStart 23 = .ok (.if_icmp .gt 77, 3) := by decide +kernel
theorem dX4_leastStart_26 : decode cX4_leastStart 26 = .ok (.aload_n 0, 1) := by decide +kernel
theorem dX4_leastStart_27 : decode cX4_leastStart 27 = .ok (.aload_n 1, 1) := by decide +kernel
theorem dX4_leastStart_28 : decode cX4_leastStart 28 = .ok (.iload_n 2, 1) := by decide +kernel
theorem dX4_leastStart_29 : decode cX4_leastStart 29 = .ok (.iload 4, 2) := by decide +kernel
theorem dX4_leastStart_31 : decode cX4_leastStart 31 = .ok (.invokevirtual 185, 3) := by decide +kernel
theorem dX4_leastStart_34 : decode cX4_leastStart 34 = .ok (.iload_n 3, 1) := by decide +kernel
theorem dX4_leastStart_35 : decode cX4_leastStart 35 = .ok (.iconst (-1), 1) := by decide +kernel
theorem dX4_leastStart_36 : decode cX4_leastStart 36 = .ok (.ixor, 1) := by decide +kernel
theorem dX4_leastStart_37 : decode cX4_leastStart 37 = .ok (.iand, 1) := by decide +kernel
theorem dX4_leastStart_38 : decode cX4_leastStart 38 = .ok (.istore 6, 2) := by decide +kernel
theorem dX4_leastStart_40 : decode cX4_leastStart 40 = .ok (.iload 6, 2) := by decide +kernel
theorem dX4_leastStart_42 : decode cX4_leastStart 42 = .ok (.ifCond .ne 6, 3) := by decide +kernel
theorem dX4_leastStart_45 : decode cX4_leastStart 45 = .ok (.iload 4, 2) := by decide +kernel
theorem dX4_leastStart_47 : decode cX4_leastStart 47 = .ok (.ireturn, 1) := by decide +kernel
theorem dX4_leastStart_48 : decode cX4_leastStart 48 = .ok (.iconst 0, 1) := by decide +kernel
theorem dX4_leastStart_49 : decode cX4_leastStart 49 = .ok (.istore 7, 2) := by decide +kernel
theorem dX4_leastStart_51 : decode cX4_leastStart 51 = .ok (.iload 7, 2) := by decide +kernel
theorem dX4_leastStart_53 : decode cX4_leastStart 53 = .ok (.aload_n 0, 1) := by decide +kernel
theorem dX4_leastStart_54 : decode cX4_leastStart 54 = .ok (.getfield 52, 3) := by decide +kernel
theorem dX4_leastStart_57 : decode cX4_leastStart 57 = .ok (.if_icmp .ge 37, 3) := by decide +kernel
theorem dX4_leastStart_60 : decode cX4_leastStart 60 = .ok (.iload 6, 2) := by decide +kernel
theorem dX4_leastStart_62 : decode cX4_leastStart 62 = .ok (.iload 7, 2) := by decide +kernel
theorem dX4_leastStart_64 : decode cX4_leastStart 64 = .ok (.invokestatic 156, 3) := by decide +kernel
theorem dX4_leastStart_67 : decode cX4_leastStart 67 = .ok (.ifCond .eq 21, 3) := by decide +kernel
theorem dX4_leastStart_70 : decode cX4_leastStart 70 = .ok (.iload 4, 2) := by decide +kernel
theorem dX4_leastStart_72 : decode cX4_leastStart 72 = .ok (.aload_n 0, 1) := by decide +kernel
theorem dX4_leastStart_73 : decode cX4_leastStart 73 = .ok (.aload_n 0, 1) := by decide +kernel
theorem dX4_leastStart_74 : decode cX4_leastStart 74 = .ok (.getfield 29, 3) := by decide +kernel
theorem dX4_leastStart_77 : decode cX4_leastStart 77 = .ok (.iload 7, 2) := by decide +kernel
theorem dX4_leastStart_79 : decode cX4_leastStart 79 = .ok (.aaload, 1) := by decide +kernel
theorem dX4_leastStart_80 : decode cX4_leastStart 80 = .ok (.invokevirtual 171, 3) := by decide +kernel
theorem dX4_leastStart_83 : decode cX4_leastStart 83 = .ok (.invokestatic 146, 3) := by decide +kernel
theorem dX4_leastStart_86 : decode cX4_leastStart 86 = .ok (.istore 4, 2) := by decide +kernel
theorem dX4_leastStart_88 : decode cX4_leastStart 88 = .ok (.iinc 7 1, 3) := by decide +kernel
theorem dX4_leastStart_91 : decode cX4_leastStart 91 = .ok (.goto (-40), 3) := by decide +kernel
theorem dX4_leastStart_94 : decode cX4_leastStart 94 = .ok (.iinc 5 1, 3) := by decide +kernel
theorem dX4_leastStart_97 : decode cX4_leastStart 97 = .ok (.goto (-88), 3) := by decide +kernel
theorem dX4_leastStart_100 : decode cX4_leastStart 100 = .ok (.iconst (-1), 1) := by decide +kernel
theorem dX4_leastStart_101 : decode cX4_leastStart 101 = .ok (.ireturn, 1) := by decide +kernel
theorem dX4_place_0 : decode cX4_place 0 = .ok (.iconst (-1), 1) := by decide +kernel
theorem dX4_place_1 : decode cX4_place 1 = .ok (.istore_n 2, 1) := by decide +kernel
theorem dX4_place_2 : decode cX4_place 2 = .ok (.iconst 0, 1) := by decide +kernel
theorem dX4_place_3 : decode cX4_place 3 = .ok (.istore_n 3, 1) := by decide +kernel
theorem dX4_place_4 : decode cX4_place 4 = .ok (.iload_n 3, 1) := by decide +kernel
theorem dX4_place_5 : decode cX4_place 5 = .ok (.aload_n 0, 1) := by decide +kernel
theorem dX4_place_6 : decode cX4_place 6 = .ok (.getfield 43, 3) := by decide +kernel
theorem dX4_place_9 : decode cX4_place 9 = .ok (.if_icmp .ge 43, 3) := by decide +kernel
theorem dX4_place_12 : decode cX4_place 12 = .ok (.aload_n 0, 1) := by decide +kernel
theorem dX4_place_13 : decode cX4_place 13 = .ok (.aload_n 1, 1) := by decide +kernel
theorem dX4_place_14 : decode cX4_place 14 = .ok (.iload_n 3, 1) := by decide +kernel
theorem dX4_place_15 : decode cX4_place 15 = .ok (.iconst 0, 1) := by decide +kernel
theorem dX4_place_16 : decode cX4_place 16 = .ok (.invokevirtual 188, 3) := by decide +kernel
theorem dX4_place_19 : decode cX4_place 19 = .ok (.istore 4, 2) := by decide +kernel
theorem dX4_place_21 : decode cX4_place 21 = .ok (.iload 4, 2) := by decide +kernel
theorem dX4_place_23 : decode cX4_place 23 = .ok (.iconst (-1), 1) := by decide +kernel
theorem dX4_place_24 : decode cX4_place 24 = .ok (.if_icmp .eq 22, 3) := by decide +kernel
theorem dX4_place_27 : decode cX4_place 27 = .ok (.iload_n 2, 1) := by decide +kernel
theorem dX4_place_28 : decode cX4_place 28 = .ok (.iconst (-1), 1) := by decide +kernel
theorem dX4_place_29 : decode cX4_place 29 = .ok (.if_icmp .eq 9, 3) := by decide +kernel
theorem dX4_place_32 : decode cX4_place 32 = .ok (.iload 4, 2) := by decide +kernel
theorem dX4_place_34 : decode cX4_place 34 = .ok (.iload_n 2, 1) := by decide +kernel
theorem dX4_place_35 : decode cX4_place 35 = .ok (.if_icmp .ge 11, 3) := by decide +kernel
theorem dX4_place_38 : decode cX4_place 38 = .ok (.iload 4, 2) := by decide +kernel
theorem dX4_place_40 : decode cX4_place 40 = .ok (.istore_n 2, 1) := by decide +kernel
theorem dX4_place_41 : decode cX4_place 41 = .ok (.aload_n 1, 1) := by decide +kernel
theorem dX4_place_42 : decode cX4_place 42 = .ok (.iload_n 3, 1) := by decide +kernel
theorem dX4_place_43 : decode cX4_place 43 = .ok (.putfield 191, 3) := by decide +kernel
theorem dX4_place_46 : decode cX4_place 46 = .ok (.iinc 3 1, 3) := by decide +kernel
theorem dX4_place_49 : decode cX4_place 49 = .ok (.goto (-45), 3) := by decide +kernel
theorem dX4_place_52 : decode cX4_place 52 = .ok (.iload_n 2, 1) := by decide +kernel
theorem dX4_place_53 : decode cX4_place 53 = .ok (.iconst (-1), 1) := by decide +kernel
theorem dX4_place_54 : decode cX4_place 54 = .ok (.if_icmp .ne 5, 3) := by decide +kernel
theorem dX4_place_57 : decode cX4_place 57 = .ok (.iconst 0, 1) := by decide +kernel
theorem dX4_place_58 : decode cX4_place 58 = .ok (.ireturn, 1) := by decide +kernel
theorem dX4_place_59 : decode cX4_place 59 = .ok (.aload_n 1, 1) := by decide +kernel
theorem dX4_place_60 : decode cX4_place 60 = .ok (.iload_n 2, 1) := by decide +kernel
theorem dX4_place_61 : decode cX4_place 61 = .ok (.putfield 168, 3) := by decide +kernel
theorem dX4_place_64 : decode cX4_place 64 = .ok (.aload_n 1, 1) := by decide +kernel
theorem dX4_place_65 : decode cX4_place 65 = .ok (.iconst 1, 1) := by decide +kernel
theorem dX4_place_66 : decode cX4_place 66 = .ok (.putfield 108, 3) := by decide +kernel
theorem dX4_place_69 : decode cX4_place 69 = .ok (.aload_n 1, 1) := by decide +kernel
theorem dX4_place_70 : decode cX4_place 70 = .ok (.getfield 114, 3) := by decide +kernel
theorem dX4_place_73 : decode cX4_place 73 = .ok (.iconst (-1), 1) := by decide +kernel
theorem dX4_place_74 : decode cX4_place 74 = .ok (.if_icmp .ne 11, 3) := by decide +kernel
theorem dX4_place_77 : decode cX4_place 77 = .ok (.aload_n 1, 1) := by decide +kernel
theorem dX4_place_78 : decode cX4_place 78 = .ok (.aload_n 0, 1) := by decide +kernel
theorem dX4_place_79 : decode cX4_place 79 = .ok (.getfield 39, 3) := by decide +kernel
theorem dX4_place_82 : decode cX4_place 82 = .ok (.putfield 114, 3) := by decide +kernel
theorem dX4_place_85 : decode cX4_place 85 = .ok (.iconst 1, 1) := by decide +kernel
theorem dX4_place_86 : decode cX4_place 86 = .ok (.ireturn, 1) := by decide +kernel
theorem dX4_placeInOrder_0 : decode cX4_placeInOrder 0 = .ok (.iload_n 1, 1) := by decide +kernel
theorem dX4_placeInOrder_1 : decode cX4_placeInOrder 1 = .ok (.istore_n 2, 1) := by decide +kernel
theorem dX4_placeInOrder_2 : decode cX4_placeInOrder 2 = .ok (.iconst 0, 1) := by decide +kernel
theorem dX4_placeInOrder_3 : decode cX4_placeInOrder 3 = .ok (.istore_n 3, 1) := by decide +kernel
theorem dX4_placeInOrder_4 : decode cX4_placeInOrder 4 = .ok (.iconst 0, 1) := by decide +kernel
theorem dX4_placeInOrder_5 : decode cX4_placeInOrder 5 = .ok (.istore 4, 2) := by decide +kernel
theorem dX4_placeInOrder_7 : decode cX4_placeInOrder 7 = .ok (.iload 4, 2) := by decide +kernel
theorem dX4_placeInOrder_9 : decode cX4_placeInOrder 9 = .ok (.aload_n 0, 1) := by decide +kernel
theorem dX4_placeInOrder_10 : decode cX4_placeInOrder 10 = .ok (.getfield 52, 3) := by decide +kernel
theorem dX4_placeInOrder_13 : decode cX4_placeInOrder 13 = .ok (.if_icmp .ge 51, 3) := by decide +kernel
theorem dX4_placeInOrder_16 : decode cX4_placeInOrder 16 = .ok (.aload_n 0, 1) := by decide +kernel
theorem dX4_placeInOrder_17 : decode cX4_placeInOrder 17 = .ok (.iload_n 2, 1) := by decide +kernel
theorem dX4_placeInOrder_18 : decode cX4_placeInOrder 18 = .ok (.invokevirtual 194, 3) := by decide +kernel
theorem dX4_placeInOrder_21 : decode cX4_placeInOrder 21 = .ok (.istore 5, 2) := by decide +kernel
theorem dX4_placeInOrder_23 : decode cX4_placeInOrder 23 = .ok (.iload 5, 2) := by decide +kernel
theorem dX4_placeInOrder_25 : decode cX4_placeInOrder 25 = .ok (.iconst (-1), 1) := by decide +kernel
theorem dX4_placeInOrder_26 : decode cX4_placeInOrder 26 = .ok (.if_icmp .ne 6, 3) := by decide +kernel
theorem dX4_placeInOrder_29 : decode cX4_placeInOrder 29 = .ok (.goto 35, 3) := by decide +kernel
theorem dX4_placeInOrder_32 : decode cX4_placeInOrder 32 = .ok (.iload_n 2, 1) := by decide +kernel
theorem dX4_placeInOrder_33 : decode cX4_placeInOrder 33 = .ok (.iconst 1, 1) := by decide +kernel
theorem dX4_placeInOrder_34 : decode cX4_placeInOrder 34 = .ok (.iload 5, 2) := by decide +kernel
theorem dX4_placeInOrder_36 : decode cX4_placeInOrder 36 = .ok (.ishl, 1) := by decide +kernel
theorem dX4_placeInOrder_37 : decode cX4_placeInOrder 37 = .ok (.iconst (-1), 1) := by decide +kernel
theorem dX4_placeInOrder_38 : decode cX4_placeInOrder 38 = .ok (.ixor, 1) := by decide +kernel
theorem dX4_placeInOrder_39 : decode cX4_placeInOrder 39 = .ok (.iand, 1) := by decide +kernel
theorem dX4_placeInOrder_40 : decode cX4_placeInOrder 40 = .ok (.istore_n 2, 1) := by decide +kernel
theorem dX4_placeInOrder_41 : decode cX4_placeInOrder 41 = .ok (.aload_n 0, 1) := by decide +kernel
theorem dX4_placeInOrder_42 : decode cX4_placeInOrder 42 = .ok (.aload_n 0, 1) := by decide +kernel
theorem dX4_placeInOrder_43 : decode cX4_placeInOrder 43 = .ok (.getfield 29, 3) := by decide +kernel
theorem dX4_placeInOrder_46 : decode cX4_placeInOrder 46 = .ok (.iload 5, 2) := by decide +kernel
theorem dX4_placeInOrder_48 : decode cX4_placeInOrder 48 = .ok (.aaload, 1) := by decide +kernel
theorem dX4_placeInOrder_49 : decode cX4_placeInOrder 49 = .ok (.invokevirtual 120, 3) := by decide +kernel
theorem dX4_placeInOrder_52 : decode cX4_placeInOrder 52 = .ok (.ifCond .eq 6, 3) := by decide +kernel
theorem dX4_placeInOrder_55 : decode cX4_placeInOrder 55 = .ok (.iinc 3 1, 3) := by decide +kernel
theorem dX4_placeInOrder_58 : decode cX4_placeInOrder 58 = .ok (.iinc 4 1, 3) := by decide +kernel
theorem dX4_placeInOrder_61 : decode cX4_placeInOrder 61 = .ok (.goto (-54), 3) := by decide +kernel
theorem dX4_placeInOrder_64 : decode cX4_placeInOrder 64 = .ok (.iload_n 3, 1) := by decide +kernel
theorem dX4_placeInOrder_65 : decode cX4_placeInOrder 65 = .ok (.ireturn, 1) := by decide +kernel
theorem dX4_assignAnew_0 : decode cX4_assignAnew 0 = .ok (.iconst 0, 1) := by decide +kernel
theorem dX4_assignAnew_1 : decode cX4_assignAnew 1 = .ok (.istore_n 2, 1) := by decide +kernel
theorem dX4_assignAnew_2 : decode cX4_assignAnew 2 = .ok (.iload_n 2, 1) := by decide +kernel
theorem dX4_assignAnew_3 : decode cX4_assignAnew 3 = .ok (.aload_n 0, 1) := by decide +kernel
theorem dX4_assignAnew_4 : decode cX4_assignAnew 4 = .ok (.getfield 52, 3) := by decide +kernel
theorem dX4_assignAnew_7 : decode cX4_assignAnew 7 = .ok (.if_icmp .ge 27, 3) := by decide +kernel
theorem dX4_assignAnew_10 : decode cX4_assignAnew 10 = .ok (.iload_n 1, 1) := by decide +kernel
theorem dX4_assignAnew_11 : decode cX4_assignAnew 11 = .ok (.iload_n 2, 1) := by decide +kernel
theorem dX4_assignAnew_12 : decode cX4_assignAnew 12 = .ok (.invokestatic 156, 3) := by decide +kernel
theorem dX4_assignAnew_15 : decode cX4_assignAnew 15 = .ok (.ifCond .eq 13, 3) := by decide +kernel
theorem dX4_assignAnew_18 : decode cX4_assignAnew 18 = .ok (.aload_n 0, 1) := by decide +kernel
theorem dX4_assignAnew_19 : decode cX4_assignAnew 19 = .ok (.getfield 29, 3) := by decide +kernel
theorem dX4_assignAnew_22 : decode cX4_assignAnew 22 = .ok (.iload_n 2, 1) := by decide +kernel
theorem dX4_assignAnew_23 : decode cX4_assignAnew 23 = .ok (.aaload, 1) := by decide +kernel
theorem dX4_assignAnew_24 : decode cX4_assignAnew 24 = .ok (.iconst 0, 1) := by decide +kernel
theorem dX4_assignAnew_25 : decode cX4_assignAnew 25 = .ok (.putfield 108, 3) := by decide +kernel
theorem dX4_assignAnew_28 : decode cX4_assignAnew 28 = .ok (.iinc 2 1, 3) := by decide +kernel
theorem dX4_assignAnew_31 : decode cX4_assignAnew 31 = .ok (.goto (-29), 3) := by decide +kernel
theorem dX4_assignAnew_34 : decode cX4_assignAnew 34 = .ok (.aload_n 0, 1) := by decide +kernel
theorem dX4_assignAnew_35 : decode cX4_assignAnew 35 = .ok (.iload_n 1, 1) := by decide +kernel
theorem dX4_assignAnew_36 : decode cX4_assignAnew 36 = .ok (.invokevirtual 198, 3) := by decide +kernel
theorem dX4_assignAnew_39 : decode cX4_assignAnew 39 = .ok (.iload_n 1, 1) := by decide +kernel
theorem dX4_assignAnew_40 : decode cX4_assignAnew 40 = .ok (.invokestatic 201, 3) := by decide +kernel
theorem dX4_assignAnew_43 : decode cX4_assignAnew 43 = .ok (.if_icmp .ne 7, 3) := by decide +kernel
theorem dX4_assignAnew_46 : decode cX4_assignAnew 46 = .ok (.iconst 1, 1) := by decide +kernel
theorem dX4_assignAnew_47 : decode cX4_assignAnew 47 = .ok (.goto 4, 3) := by decide +kernel
theorem dX4_assignAnew_50 : decode cX4_assignAnew 50 = .ok (.iconst 0, 1) := by decide +kernel
theorem dX4_assignAnew_51 : decode cX4_assignAnew 51 = .ok (.ireturn, 1) := by decide +kernel
theorem dX4_passFrame_0 : decode cX4_passFrame 0 = .ok (.aload_n 0, 1) := by decide +kernel
theorem dX4_passFrame_1 : decode cX4_passFrame 1 = .ok (.dup, 1) := by decide +kernel
theorem dX4_passFrame_2 : decode cX4_passFrame 2 = .ok (.getfield 39, 3) := by decide +kernel
theorem dX4_passFrame_5 : decode cX4_passFrame 5 = .ok (.iconst 1, 1) := by decide +kernel
theorem dX4_passFrame_6 : decode cX4_passFrame 6 = .ok (.iadd, 1) := by decide +kernel
theorem dX4_passFrame_7 : decode cX4_passFrame 7 = .ok (.putfield 39, 3) := by decide +kernel
theorem dX4_passFrame_10 : decode cX4_passFrame 10 = .ok (.iconst 0, 1) := by decide +kernel
theorem dX4_passFrame_11 : decode cX4_passFrame 11 = .ok (.istore_n 1, 1) := by decide +kernel
theorem dX4_passFrame_12 : decode cX4_passFrame 12 = .ok (.iload_n 1, 1) := by decide +kernel
theorem dX4_passFrame_13 : decode cX4_passFrame 13 = .ok (.aload_n 0, 1) := by decide +kernel
theorem dX4_passFrame_14 : decode cX4_passFrame 14 = .ok (.getfield 46, 3) := by decide +kernel
theorem dX4_passFrame_17 : decode cX4_passFrame 17 = .ok (.if_icmp .ge 53, 3) := by decide +kernel
theorem dX4_passFrame_20 : decode cX4_passFrame 20 = .ok (.aload_n 0, 1) := by decide +kernel
theorem dX4_passFrame_21 : decode cX4_passFrame 21 = .ok (.getfield 17, 3) := by decide +kernel
theorem dX4_passFrame_24 : decode cX4_passFrame 24 = .ok (.iload_n 1, 1) := by decide +kernel
theorem dX4_passFrame_25 : decode cX4_passFrame 25 = .ok (.aaload, 1) := by decide +kernel
theorem dX4_passFrame_26 : decode cX4_passFrame 26 = .ok (.astore_n 2, 1) := by decide +kernel
theorem dX4_passFrame_27 : decode cX4_passFrame 27 = .ok (.aload_n 2, 1) := by decide +kernel
theorem dX4_passFrame_28 : decode cX4_passFrame 28 = .ok (.aload_n 0, 1) := by decide +kernel
theorem dX4_passFrame_29 : decode cX4_passFrame 29 = .ok (.getfield 39, 3) := by decide +kernel
theorem dX4_passFrame_32 : decode cX4_passFrame 32 = .ok (.aload_n 0, 1) := by decide +kernel
theorem dX4_passFrame_33 : decode cX4_passFrame 33 = .ok (.aload_n 2, 1) := by decide +kernel
theorem dX4_passFrame_34 : decode cX4_passFrame 34 = .ok (.invokevirtual 216, 3) := by decide +kernel
theorem dX4_passFrame_37 : decode cX4_passFrame 37 = .ok (.aload_n 0, 1) := by decide +kernel
theorem dX4_passFrame_38 : decode cX4_passFrame 38 = .ok (.getfield 9, 3) := by decide +kernel
theorem dX4_passFrame_41 : decode cX4_passFrame 41 = .ok (.bipush 6, 2) := by decide +kernel
theorem dX4_passFrame_43 : decode cX4_passFrame 43 = .ok (.iaload, 1) := by decide +kernel
theorem dX4_passFrame_44 : decode cX4_passFrame 44 = .ok (.invokevirtual 220, 3) := by decide +kernel
theorem dX4_passFrame_47 : decode cX4_passFrame 47 = .ok (.aload_n 2, 1) := by decide +kernel
theorem dX4_passFrame_48 : decode cX4_passFrame 48 = .ok (.aload_n 0, 1) := by decide +kernel
theorem dX4_passFrame_49 : decode cX4_passFrame 49 = .ok (.iload_n 1, 1) := by decide +kernel
theorem dX4_passFrame_50 : decode cX4_passFrame 50 = .ok (.aload_n 2, 1) := by decide +kernel
theorem dX4_passFrame_51 : decode cX4_passFrame 51 = .ok (.getfield 149, 3) := by decide +kernel
theorem dX4_passFrame_54 : decode cX4_passFrame 54 = .ok (.aload_n 0, 1) := by decide +kernel
theorem dX4_passFrame_55 : decode cX4_passFrame 55 = .ok (.getfield 39, 3) := by decide +kernel
theorem dX4_passFrame_58 : decode cX4_passFrame 58 = .ok (.invokevirtual 224, 3) := by decide +kernel
theorem dX4_passFrame_61 : decode cX4_passFrame 61 = .ok (.putfield 149, 3) := by decide +kernel
theorem dX4_passFrame_64 : decode cX4_passFrame 64 = .ok (.iinc 1 1, 3) := by decide +kernel
theorem dX4_passFrame_67 : decode cX4_passFrame 67 = .ok (.goto (-55), 3) := by decide +kernel
theorem dX4_passFrame_70 : decode cX4_passFrame 70 = .ok (.aload_n 0, 1) := by decide +kernel
theorem dX4_passFrame_71 : decode cX4_passFrame 71 = .ok (.iconst 1, 1) := by decide +kernel
theorem dX4_passFrame_72 : decode cX4_passFrame 72 = .ok (.invokevirtual 228, 3) := by decide +kernel
theorem dX4_passFrame_75 : decode cX4_passFrame 75 = .ok (.istore_n 1, 1) := by decide +kernel
theorem dX4_passFrame_76 : decode cX4_passFrame 76 = .ok (.aload_n 0, 1) := by decide +kernel
theorem dX4_passFrame_77 : decode cX4_passFrame 77 = .ok (.invokevirtual 231, 3) := by decide +kernel
theorem dX4_passFrame_80 : decode cX4_passFrame 80 = .ok (.aload_n 0, 1) := by decide +kernel
theorem dX4_passFrame_81 : decode cX4_passFrame 81 = .ok (.iload_n 1, 1) := by decide +kernel
theorem dX4_passFrame_82 : decode cX4_passFrame 82 = .ok (.aload_n 0, 1) := by decide +kernel
theorem dX4_passFrame_83 : decode cX4_passFrame 83 = .ok (.iconst 1, 1) := by decide +kernel
theorem dX4_passFrame_84 : decode cX4_passFrame 84 = .ok (.invokevirtual 228, 3) := by decide +kernel
theorem dX4_passFrame_87 : decode cX4_passFrame 87 = .ok (.iand, 1) := by decide +kernel
theorem dX4_passFrame_88 : decode cX4_passFrame 88 = .ok (.invokevirtual 234, 3) := by decide +kernel
theorem dX4_passFrame_91 : decode cX4_passFrame 91 = .ok (.return_, 1) := by decide +kernel
theorem dX4_endAndServe_0 : decode cX4_endAndServe 0 = .ok (.iconst 0, 1) := by decide +kernel
theorem dX4_endAndServe_1 : decode cX4_endAndServe 1 = .ok (.istore_n 1, 1) := by decide +kernel
theorem dX4_endAndServe_2 : decode cX4_endAndServe 2 = .ok (.iconst 0, 1) := by decide +kernel
theorem dX4_endAndServe_3 : decode cX4_endAndServe 3 = .ok (.istore_n 2, 1) := by decide +kernel
theorem dX4_endAndServe_4 : decode cX4_endAndServe 4 = .ok (.iload_n 2, 1) := by decide +kernel
theorem dX4_endAndServe_5 : decode cX4_endAndServe 5 = .ok (.aload_n 0, 1) := by decide +kernel
theorem dX4_endAndServe_6 : decode cX4_endAndServe 6 = .ok (.getfield 52, 3) := by decide +kernel
theorem dX4_endAndServe_9 : decode cX4_endAndServe 9 = .ok (.if_icmp .ge 50, 3) := by decide +kernel
theorem dX4_endAndServe_12 : decode cX4_endAndServe 12 = .ok (.aload_n 0, 1) := by decide +kernel
theorem dX4_endAndServe_13 : decode cX4_endAndServe 13 = .ok (.getfield 29, 3) := by decide +kernel
theorem dX4_endAndServe_16 : decode cX4_endAndServe 16 = .ok (.iload_n 2, 1) := by decide +kernel
theorem dX4_endAndServe_17 : decode cX4_endAndServe 17 = .ok (.aaload, 1) := by decide +kernel
theorem dX4_endAndServe_18 : decode cX4_endAndServe 18 = .ok (.getfield 108, 3) := by decide +kernel
theorem dX4_endAndServe_21 : decode cX4_endAndServe 21 = .ok (.iconst 1, 1) := by decide +kernel
theorem dX4_endAndServe_22 : decode cX4_endAndServe 22 = .ok (.if_icmp .ne 31, 3) := by decide +kernel
theorem dX4_endAndServe_25 : decode cX4_endAndServe 25 = .ok (.aload_n 0, 1) := by decide +kernel
theorem dX4_endAndServe_26 : decode cX4_endAndServe 26 = .ok (.getfield 29, 3) := by decide +kernel
theorem dX4_endAndServe_29 : decode cX4_endAndServe 29 = .ok (.iload_n 2, 1) := by decide +kernel
theorem dX4_endAndServe_30 : decode cX4_endAndServe 30 = .ok (.aaload, 1) := by decide +kernel
theorem dX4_endAndServe_31 : decode cX4_endAndServe 31 = .ok (.invokevirtual 238, 3) := by decide +kernel
theorem dX4_endAndServe_34 : decode cX4_endAndServe 34 = .ok (.aload_n 0, 1) := by decide +kernel
theorem dX4_endAndServe_35 : decode cX4_endAndServe 35 = .ok (.getfield 39, 3) := by decide +kernel
theorem dX4_endAndServe_38 : decode cX4_endAndServe 38 = .ok (.if_icmp .gt 15, 3) := by decide +kernel
theorem dX4_endAndServe_41 : decode cX4_endAndServe 41 = .ok (.aload_n 0, 1) := by decide +kernel
theorem dX4_endAndServe_42 : decode cX4_endAndServe 42 = .ok (.getfield 29, 3) := by decide +kernel
theorem dX4_endAndServe_45 : decode cX4_endAndServe 45 = .ok (.iload_n 2, 1) := by decide +kernel
theorem dX4_endAndServe_46 : decode cX4_endAndServe 46 = .ok (.aaload, 1) := by decide +kernel
theorem dX4_endAndServe_47 : decode cX4_endAndServe 47 = .ok (.iconst 2, 1) := by decide +kernel
theorem dX4_endAndServe_48 : decode cX4_endAndServe 48 = .ok (.putfield 108, 3) := by decide +kernel
theorem dX4_endAndServe_51 : decode cX4_endAndServe 51 = .ok (.iconst 1, 1) := by decide +kernel
theorem dX4_endAndServe_52 : decode cX4_endAndServe 52 = .ok (.istore_n 1, 1) := by decide +kernel
theorem dX4_endAndServe_53 : decode cX4_endAndServe 53 = .ok (.iinc 2 1, 3) := by decide +kernel
theorem dX4_endAndServe_56 : decode cX4_endAndServe 56 = .ok (.goto (-52), 3) := by decide +kernel
theorem dX4_endAndServe_59 : decode cX4_endAndServe 59 = .ok (.iload_n 1, 1) := by decide +kernel
theorem dX4_endAndServe_60 : decode cX4_endAndServe 60 = .ok (.ifCond .eq 13, 3) := by decide +kernel
theorem dX4_endAndServe_63 : decode cX4_endAndServe 63 = .ok (.aload_n 0, 1) := by decide +kernel
theorem dX4_endAndServe_64 : decode cX4_endAndServe 64 = .ok (.aload_n 0, 1) := by decide +kernel
theorem dX4_endAndServe_65 : decode cX4_endAndServe 65 = .ok (.iconst 0, 1) := by decide +kernel
theorem dX4_endAndServe_66 : decode cX4_endAndServe 66 = .ok (.invokevirtual 228, 3) := by decide +kernel
theorem dX4_endAndServe_69 : decode cX4_endAndServe 69 = .ok (.invokevirtual 198, 3) := by decide +kernel
theorem dX4_endAndServe_72 : decode cX4_endAndServe 72 = .ok (.pop, 1) := by decide +kernel
theorem dX4_endAndServe_73 : decode cX4_endAndServe 73 = .ok (.return_, 1) := by decide +kernel
theorem dX4_countTroubles_0 : decode cX4_countTroubles 0 = .ok (.aload_n 0, 1) := by decide +kernel
theorem dX4_countTroubles_1 : decode cX4_countTroubles 1 = .ok (.iload_n 1, 1) := by decide +kernel
theorem dX4_countTroubles_2 : decode cX4_countTroubles 2 = .ok (.invokevirtual 241, 3) := by decide +kernel
theorem dX4_countTroubles_5 : decode cX4_countTroubles 5 = .ok (.istore_n 2, 1) := by decide +kernel
theorem dX4_countTroubles_6 : decode cX4_countTroubles 6 = .ok (.iconst 0, 1) := by decide +kernel
theorem dX4_countTroubles_7 : decode cX4_countTroubles 7 = .ok (.istore_n 3, 1) := by decide +kernel
theorem dX4_countTroubles_8 : decode cX4_countTroubles 8 = .ok (.iconst 0, 1) := by decide +kernel
theorem dX4_countTroubles_9 : decode cX4_countTroubles 9 = .ok (.istore 4, 2) := by decide +kernel
theorem dX4_countTroubles_11 : decode cX4_countTroubles 11 = .ok (.iload 4, 2) := by decide +kernel
theorem dX4_countTroubles_13 : decode cX4_countTroubles 13 = .ok (.aload_n 0, 1) := by decide +kernel
theorem dX4_countTroubles_14 : decode cX4_countTroubles 14 = .ok (.getfield 52, 3) := by decide +kernel
theorem dX4_countTroubles_17 : decode cX4_countTroubles 17 = .ok (.if_icmp .ge 58, 3) := by decide +kernel
theorem dX4_countTroubles_20 : decode cX4_countTroubles 20 = .ok (.iload_n 1, 1) := by decide +kernel
theorem dX4_countTroubles_21 : decode cX4_countTroubles 21 = .ok (.iload 4, 2) := by decide +kernel
theorem dX4_countTroubles_23 : decode cX4_countTroubles 23 = .ok (.invokestatic 156, 3) := by decide +kernel
theorem dX4_countTroubles_26 : decode cX4_countTroubles 26 = .ok (.ifCond .eq 18, 3) := by decide +kernel
theorem dX4_countTroubles_29 : decode cX4_countTroubles 29 = .ok (.iload_n 3, 1) := by decide +kernel
theorem dX4_countTroubles_30 : decode cX4_countTroubles 30 = .ok (.iconst 1, 1) := by decide +kernel
theorem dX4_countTroubles_31 : decode cX4_countTroubles 31 = .ok (.aload_n 0, 1) := by decide +kernel
theorem dX4_countTroubles_32 : decode cX4_countTroubles 32 = .ok (.getfield 29, 3) := by decide +kernel
theorem dX4_countTroubles_35 : decode cX4_countTroubles 35 = .ok (.iload 4, 2) := by decide +kernel
theorem dX4_countTroubles_37 : decode cX4_countTroubles 37 = .ok (.aaload, 1) := by decide +kernel
theorem dX4_countTroubles_38 : decode cX4_countTroubles 38 = .ok (.getfield 93, 3) := by decide +kernel
theorem dX4_countTroubles_41 : decode cX4_countTroubles 41 = .ok (.ishl, 1) := by decide +kernel
theorem dX4_countTroubles_42 : decode cX4_countTroubles 42 = .ok (.ior, 1) := by decide +kernel
theorem dX4_countTroubles_43 : decode cX4_countTroubles 43 = .ok (.istore_n 3, 1) := by decide +kernel
theorem dX4_countTroubles_44 : decode cX4_countTroubles 44 = .ok (.iload_n 2, 1) := by decide +kernel
theorem dX4_countTroubles_45 : decode cX4_countTroubles 45 = .ok (.iload 4, 2) := by decide +kernel
theorem dX4_countTroubles_47 : decode cX4_countTroubles 47 = .ok (.invokestatic 156, 3) := by decide +kernel
theorem dX4_countTroubles_50 : decode cX4_countTroubles 50 = .ok (.ifCond .eq 19, 3) := by decide +kernel
theorem dX4_countTroubles_53 : decode cX4_countTroubles 53 = .ok (.aload_n 0, 1) := by decide +kernel
theorem dX4_countTroubles_54 : decode cX4_countTroubles 54 = .ok (.getfield 29, 3) := by decide +kernel
theorem dX4_countTroubles_57 : decode cX4_countTroubles 57 = .ok (.iload 4, 2) := by decide +kernel
theorem dX4_countTroubles_59 : decode cX4_countTroubles 59 = .ok (.aaload, 1) := by decide +kernel
theorem dX4_countTroubles_60 : decode cX4_countTroubles 60 = .ok (.dup, 1) := by decide +kernel
theorem dX4_countTroubles_61 : decode cX4_countTroubles 61 = .ok (.getfield 117, 3) := by decide +kernel
theorem dX4_countTroubles_64 : decode cX4_countTroubles 64 = .ok (.iconst 1, 1) := by decide +kernel
theorem dX4_countTroubles_65 : decode cX4_countTroubles 65 = .ok (.iadd, 1) := by decide +kernel
theorem dX4_countTroubles_66 : decode cX4_countTroubles 66 = .ok (.putfield 117, 3) := by decide +kernel
theorem dX4_countTroubles_69 : decode cX4_countTroubles 69 = .ok (.iinc 4 1, 3) := by decide +kernel
theorem dX4_countTroubles_72 : decode cX4_countTroubles 72 = .ok (.goto (-61), 3) := by decide +kernel
theorem dX4_countTroubles_75 : decode cX4_countTroubles 75 = .ok (.iconst 0, 1) := by decide +kernel
theorem dX4_countTroubles_76 : decode cX4_countTroubles 76 = .ok (.istore 4, 2) := by decide +kernel
theorem dX4_countTroubles_78 : decode cX4_countTroubles 78 = .ok (.iload 4, 2) := by decide +kernel
theorem dX4_countTroubles_80 : decode cX4_countTroubles 80 = .ok (.aload_n 0, 1) := by decide +kernel
theorem dX4_countTroubles_81 : decode cX4_countTroubles 81 = .ok (.getfield 46, 3) := by decide +kernel
theorem dX4_countTroubles_84 : decode cX4_countTroubles 84 = .ok (.if_icmp .ge 57, 3) := by decide +kernel
theorem dX4_countTroubles_87 : decode cX4_countTroubles 87 = .ok (.iload_n 3, 1) := by decide +kernel
theorem dX4_countTroubles_88 : decode cX4_countTroubles 88 = .ok (.iload 4, 2) := by decide +kernel
theorem dX4_countTroubles_90 : decode cX4_countTroubles 90 = .ok (.invokestatic 156, 3) := by decide +kernel
theorem dX4_countTroubles_93 : decode cX4_countTroubles 93 = .ok (.ifCond .eq 42, 3) := by decide +kernel
theorem dX4_countTroubles_96 : decode cX4_countTroubles 96 = .ok (.aload_n 0, 1) := by decide +kernel
theorem dX4_countTroubles_97 : decode cX4_countTroubles 97 = .ok (.getfield 17, 3) := by decide +kernel
theorem dX4_countTroubles_100 : decode cX4_countTroubles 100 = .ok (.iload 4, 2) := by decide +kernel
theorem dX4_countTroubles_102 : decode cX4_countTroubles 102 = .ok (.aaload, 1) := by decide +kernel
theorem dX4_countTroubles_103 : decode cX4_countTroubles 103 = .ok (.aload_n 0, 1) := by decide +kernel
theorem dX4_countTroubles_104 : decode cX4_countTroubles 104 = .ok (.getfield 39, 3) := by decide +kernel
theorem dX4_countTroubles_107 : decode cX4_countTroubles 107 = .ok (.aload_n 0, 1) := by decide +kernel
theorem dX4_countTroubles_108 : decode cX4_countTroubles 108 = .ok (.getfield 9, 3) := by decide +kernel
theorem dX4_countTroubles_111 : decode cX4_countTroubles 111 = .ok (.iconst 1, 1) := by decide +kernel
theorem dX4_countTroubles_112 : decode cX4_countTroubles 112 = .ok (.iaload, 1) := by decide +kernel
theorem dX4_countTroubles_113 : decode cX4_countTroubles 113 = .ok (.invokevirtual 244, 3) := by decide +kernel
theorem dX4_countTroubles_116 : decode cX4_countTroubles 116 = .ok (.ifCond .eq 19, 3) := by decide +kernel
theorem dX4_countTroubles_119 : decode cX4_countTroubles 119 = .ok (.aload_n 0, 1) := by decide +kernel
theorem dX4_countTroubles_120 : decode cX4_countTroubles 120 = .ok (.getfield 17, 3) := by decide +kernel
theorem dX4_countTroubles_123 : decode cX4_countTroubles 123 = .ok (.iload 4, 2) := by decide +kernel
theorem dX4_countTroubles_125 : decode cX4_countTroubles 125 = .ok (.aaload, 1) := by decide +kernel
theorem dX4_countTroubles_126 : decode cX4_countTroubles 126 = .ok (.dup, 1) := by decide +kernel
theorem dX4_countTroubles_127 : decode cX4_countTroubles 127 = .ok (.getfield 247, 3) := by decide +kernel
theorem dX4_countTroubles_130 : decode cX4_countTroubles 130 = .ok (.iconst 1, 1) := by decide +kernel
theorem dX4_countTroubles_131 : decode cX4_countTroubles 131 = .ok (.iadd, 1) := by decide +kernel
theorem dX4_countTroubles_132 : decode cX4_countTroubles 132 = .ok (.putfield 247, 3) := by decide +kernel
theorem dX4_countTroubles_135 : decode cX4_countTroubles 135 = .ok (.iinc 4 1, 3) := by decide +kernel
theorem dX4_countTroubles_138 : decode cX4_countTroubles 138 = .ok (.goto (-60), 3) := by decide +kernel
theorem dX4_countTroubles_141 : decode cX4_countTroubles 141 = .ok (.return_, 1) := by decide +kernel
theorem dX5_init_0 : decode cX5_init 0 = .ok (.aload_n 0, 1) := by decide +kernel
theorem dX5_init_1 : decode cX5_init 1 = .ok (.invokespecial 3, 3) := by decide +kernel
theorem dX5_init_4 : decode cX5_init 4 = .ok (.aload_n 0, 1) := by decide +kernel
theorem dX5_init_5 : decode cX5_init 5 = .ok (.bipush 64, 2) := by decide +kernel
theorem dX5_init_7 : decode cX5_init 7 = .ok (.newarray .int, 2) := by decide +kernel
theorem dX5_init_9 : decode cX5_init 9 = .ok (.putfield 11, 3) := by decide +kernel
theorem dX5_init_12 : decode cX5_init 12 = .ok (.return_, 1) := by decide +kernel
theorem dX5_declare_0 : decode cX5_declare 0 = .ok (.aload_n 0, 1) := by decide +kernel
theorem dX5_declare_1 : decode cX5_declare 1 = .ok (.iload_n 1, 1) := by decide +kernel
theorem dX5_declare_2 : decode cX5_declare 2 = .ok (.putfield 15, 3) := by decide +kernel
theorem dX5_declare_5 : decode cX5_declare 5 = .ok (.aload_n 0, 1) := by decide +kernel
theorem dX5_declare_6 : decode cX5_declare 6 = .ok (.iload_n 2, 1) := by decide +kernel
theorem dX5_declare_7 : decode cX5_declare 7 = .ok (.putfield 19, 3) := by decide +kernel
theorem dX5_declare_10 : decode cX5_declare 10 = .ok (.aload_n 0, 1) := by decide +kernel
theorem dX5_declare_11 : decode cX5_declare 11 = .ok (.iload_n 3, 1) := by decide +kernel
theorem dX5_declare_12 : decode cX5_declare 12 = .ok (.putfield 22, 3) := by decide +kernel
theorem dX5_declare_15 : decode cX5_declare 15 = .ok (.aload_n 0, 1) := by decide +kernel
theorem dX5_declare_16 : decode cX5_declare 16 = .ok (.iload 4, 2) := by decide +kernel
theorem dX5_declare_18 : decode cX5_declare 18 = .ok (.putfield 25, 3) := by decide +kernel
theorem dX5_declare_21 : decode cX5_declare 21 = .ok (.aload_n 0, 1) := by decide +kernel
theorem dX5_declare_22 : decode cX5_declare 22 = .ok (.iload 5, 2) := by decide +kernel
theorem dX5_declare_24 : decode cX5_declare 24 = .ok (.putfield 28, 3) := by decide +kernel
theorem dX5_declare_27 : decode cX5_declare 27 = .ok (.aload_n 0, 1) := by decide +kernel
theorem dX5_declare_28 : decode cX5_declare 28 = .ok (.iload 4, 2) := by decide +kernel
theorem dX5_declare_30 : decode cX5_declare 30 = .ok (.putfield 31, 3) := by decide +kernel
theorem dX5_declare_33 : decode cX5_declare 33 = .ok (.aload_n 0, 1) := by decide +kernel
theorem dX5_declare_34 : decode cX5_declare 34 = .ok (.iconst 0, 1) := by decide +kernel
theorem dX5_declare_35 : decode cX5_declare 35 = .ok (.putfield 34, 3) := by decide +kernel
theorem dX5_declare_38 : decode cX5_declare 38 = .ok (.aload_n 0, 1) := by decide +kernel
theorem dX5_declare_39 : decode cX5_declare 39 = .ok (.invokevirtual 37, 3) := by decide +kernel
theorem dX5_declare_42 : decode cX5_declare 42 = .ok (.return_, 1) := by decide +kernel
theorem dX5_copyFrom_0 : decode cX5_copyFrom 0 = .ok (.aload_n 0, 1) := by decide +kernel
theorem dX5_copyFrom_1 : decode cX5_copyFrom 1 = .ok (.aload_n 1, 1) := by decide +kernel
theorem dX5_copyFrom_2 : decode cX5_copyFrom 2 = .ok (.getfield 15, 3) := by decide +kernel
theorem dX5_copyFrom_5 : decode cX5_copyFrom 5 = .ok (.putfield 15, 3) := by decide +kernel
theorem dX5_copyFrom_8 : decode cX5_copyFrom 8 = .ok (.aload_n 0, 1) := by decide +kernel
theorem dX5_copyFrom_9 : decode cX5_copyFrom 9 = .ok (.aload_n 1, 1) := by decide +kernel
theorem dX5_copyFrom_10 : decode cX5_copyFrom 10 = .ok (.getfield 19, 3) := by decide +kernel
theorem dX5_copyFrom_13 : decode cX5_copyFrom 13 = .ok (.putfield 19, 3) := by decide +kernel
theorem dX5_copyFrom_16 : decode cX5_copyFrom 16 = .ok (.aload_n 0, 1) := by decide +kernel
theorem dX5_copyFrom_17 : decode cX5_copyFrom 17 = .ok (.aload_n 1, 1) := by decide +kernel
theorem dX5_copyFrom_18 : decode cX5_copyFrom 18 = .ok (.getfield 22, 3) := by decide +kernel
theorem dX5_copyFrom_21 : decode cX5_copyFrom 21 = .ok (.putfield 22, 3) := by decide +kernel
theorem dX5_copyFrom_24 : decode cX5_copyFrom 24 = .ok (.aload_n 0, 1) := by decide +kernel
theorem dX5_copyFrom_25 : decode cX5_copyFrom 25 = .ok (.aload_n 1, 1) := by decide +kernel
theorem dX5_copyFrom_26 : decode cX5_copyFrom 26 = .ok (.getfield 25, 3) := by decide +kernel
theorem dX5_copyFrom_29 : decode cX5_copyFrom 29 = .ok (.putfield 25, 3) := by decide +kernel
theorem dX5_copyFrom_32 : decode cX5_copyFrom 32 = .ok (.aload_n 0, 1) := by decide +kernel
theorem dX5_copyFrom_33 : decode cX5_copyFrom 33 = .ok (.aload_n 1, 1) := by decide +kernel
theorem dX5_copyFrom_34 : decode cX5_copyFrom 34 = .ok (.getfield 28, 3) := by decide +kernel
theorem dX5_copyFrom_37 : decode cX5_copyFrom 37 = .ok (.putfield 28, 3) := by decide +kernel
theorem dX5_copyFrom_40 : decode cX5_copyFrom 40 = .ok (.aload_n 0, 1) := by decide +kernel
theorem dX5_copyFrom_41 : decode cX5_copyFrom 41 = .ok (.aload_n 1, 1) := by decide +kernel
theorem dX5_copyFrom_42 : decode cX5_copyFrom 42 = .ok (.getfield 31, 3) := by decide +kernel
theorem dX5_copyFrom_45 : decode cX5_copyFrom 45 = .ok (.putfield 31, 3) := by decide +kernel
theorem dX5_copyFrom_48 : decode cX5_copyFrom 48 = .ok (.aload_n 0, 1) := by decide +kernel
theorem dX5_copyFrom_49 : decode cX5_copyFrom 49 = .ok (.aload_n 1, 1) := by decide +kernel
theorem dX5_copyFrom_50 : decode cX5_copyFrom 50 = .ok (.getfield 34, 3) := by decide +kernel
theorem dX5_copyFrom_53 : decode cX5_copyFrom 53 = .ok (.putfield 34, 3) := by decide +kernel
theorem dX5_copyFrom_56 : decode cX5_copyFrom 56 = .ok (.aload_n 1, 1) := by decide +kernel
theorem dX5_copyFrom_57 : decode cX5_copyFrom 57 = .ok (.getfield 11, 3) := by decide +kernel
theorem dX5_copyFrom_60 : decode cX5_copyFrom 60 = .ok (.iconst 0, 1) := by decide +kernel
theorem dX5_copyFrom_61 : decode cX5_copyFrom 61 = .ok (.aload_n 0, 1) := by decide +kernel
theorem dX5_copyFrom_62 : decode cX5_copyFrom 62 = .ok (.getfield 11, 3) := by decide +kernel
theorem dX5_copyFrom_65 : decode cX5_copyFrom 65 = .ok (.iconst 0, 1) := by decide +kernel
theorem dX5_copyFrom_66 : decode cX5_copyFrom 66 = .ok (.bipush 64, 2) := by decide +kernel
theorem dX5_copyFrom_68 : decode cX5_copyFrom 68 = .ok (.invokestatic 40, 3) := by decide +kernel
theorem dX5_copyFrom_71 : decode cX5_copyFrom 71 = .ok (.return_, 1) := by decide +kernel
theorem dX5_forgetErrors_0 : decode cX5_forgetErrors 0 = .ok (.iconst 0, 1) := by decide +kernel
theorem dX5_forgetErrors_1 : decode cX5_forgetErrors 1 = .ok (.istore_n 1, 1) := by decide +kernel
theorem dX5_forgetErrors_2 : decode cX5_forgetErrors 2 = .ok (.iload_n 1, 1) := by decide +kernel
theorem dX5_forgetErrors_3 : decode cX5_forgetErrors 3 = .ok (.bipush 64, 2) := by decide +kernel
theorem dX5_forgetErrors_5 : decode cX5_forgetErrors 5 = .ok (.if_icmp .ge 16, 3) := by decide +kernel
theorem dX5_forgetErrors_8 : decode cX5_forgetErrors 8 = .ok (.aload_n 0, 1) := by decide +kernel
theorem dX5_forgetErrors_9 : decode cX5_forgetErrors 9 = .ok (.getfield 11, 3) := by decide +kernel
theorem dX5_forgetErrors_12 : decode cX5_forgetErrors 12 = .ok (.iload_n 1, 1) := by decide +kernel
theorem dX5_forgetErrors_13 : decode cX5_forgetErrors 13 = .ok (.iconst 0, 1) := by decide +kernel
theorem dX5_forgetErrors_14 : decode cX5_forgetErrors 14 = .ok (.iastore, 1) := by decide +kernel
theorem dX5_forgetErrors_15 : decode cX5_forgetErrors 15 = .ok (.iinc 1 1, 3) := by decide +kernel
theorem dX5_forgetErrors_18 : decode cX5_forgetErrors 18 = .ok (.goto (-16), 3) := by decide +kernel
theorem dX5_forgetErrors_21 : decode cX5_forgetErrors 21 = .ok (.return_, 1) := by decide +kernel
theorem dX5_errorIn_0 : decode cX5_errorIn 0 = .ok (.aload_n 0, 1) := by decide +kernel
theorem dX5_errorIn_1 : decode cX5_errorIn 1 = .ok (.getfield 11, 3) := by decide +kernel
theorem dX5_errorIn_4 : decode cX5_errorIn 4 = .ok (.iload_n 1, 1) := by decide +kernel
theorem dX5_errorIn_5 : decode cX5_errorIn 5 = .ok (.bipush 63, 2) := by decide +kernel
theorem dX5_errorIn_7 : decode cX5_errorIn 7 = .ok (.iand, 1) := by decide +kernel
theorem dX5_errorIn_8 : decode cX5_errorIn 8 = .ok (.iaload, 1) := by decide +kernel
theorem dX5_errorIn_9 : decode cX5_errorIn 9 = .ok (.ireturn, 1) := by decide +kernel
theorem dX5_isOutOfTime_0 : decode cX5_isOutOfTime 0 = .ok (.aload_n 0, 1) := by decide +kernel
theorem dX5_isOutOfTime_1 : decode cX5_isOutOfTime 1 = .ok (.iload_n 1, 1) := by decide +kernel
theorem dX5_isOutOfTime_2 : decode cX5_isOutOfTime 2 = .ok (.invokevirtual 46, 3) := by decide +kernel
theorem dX5_isOutOfTime_5 : decode cX5_isOutOfTime 5 = .ok (.invokestatic 50, 3) := by decide +kernel
theorem dX5_isOutOfTime_8 : decode cX5_isOutOfTime 8 = .ok (.iconst 2, 1) := by decide +kernel
theorem dX5_isOutOfTime_9 : decode cX5_isOutOfTime 9 = .ok (.imul, 1) := by decide +kernel
theorem dX5_isOutOfTime_10 : decode cX5_isOutOfTime 10 = .ok (.iload_n 2, 1) := by decide +kernel
theorem dX5_isOutOfTime_11 : decode cX5_isOutOfTime 11 = .ok (.if_icmp .le 7, 3) := by decide +kernel
theorem dX5_isOutOfTime_14 : decode cX5_isOutOfTime 14 = .ok (.iconst 1, 1) := by decide +kernel
theorem dX5_isOutOfTime_15 : decode cX5_isOutOfTime 15 = .ok (.goto 4, 3) := by decide +kernel
theorem dX5_isOutOfTime_18 : decode cX5_isOutOfTime 18 = .ok (.iconst 0, 1) := by decide +kernel
theorem dX5_isOutOfTime_19 : decode cX5_isOutOfTime 19 = .ok (.ireturn, 1) := by decide +kernel
theorem dX5_keepTime_0 : decode cX5_keepTime 0 = .ok (.iload_n 1, 1) := by decide +kernel
theorem dX5_keepTime_1 : decode cX5_keepTime 1 = .ok (.iconst 1, 1) := by decide +kernel
theorem dX5_keepTime_2 : decode cX5_keepTime 2 = .ok (.isub, 1) := by decide +kernel
theorem dX5_keepTime_3 : decode cX5_keepTime 3 = .ok (.iload_n 2, 1) := by decide +kernel
theorem dX5_keepTime_4 : decode cX5_keepTime 4 = .ok (.isub, 1) := by decide +kernel
theorem dX5_keepTime_5 : decode cX5_keepTime 5 = .ok (.istore 4, 2) := by decide +kernel
theorem dX5_keepTime_7 : decode cX5_keepTime 7 = .ok (.iload 4, 2) := by decide +kernel
theorem dX5_keepTime_9 : decode cX5_keepTime 9 = .ok (.ifCond .ge 7, 3) := by decide +kernel
theorem dX5_keepTime_12 : decode cX5_keepTime 12 = .ok (.iconst 0, 1) := by decide +kernel
theorem dX5_keepTime_13 : decode cX5_keepTime 13 = .ok (.goto 14, 3) := by decide +kernel
theorem dX5_keepTime_16 : decode cX5_keepTime 16 = .ok (.aload_n 0, 1) := by decide +kernel
theorem dX5_keepTime_17 : decode cX5_keepTime 17 = .ok (.iload 4, 2) := by decide +kernel
theorem dX5_keepTime_19 : decode cX5_keepTime 19 = .ok (.invokevirtual 46, 3) := by decide +kernel
theorem dX5_keepTime_22 : decode cX5_keepTime 22 = .ok (.iload_n 3, 1) := by decide +kernel
theorem dX5_keepTime_23 : decode cX5_keepTime 23 = .ok (.imul, 1) := by decide +kernel
theorem dX5_keepTime_24 : decode cX5_keepTime 24 = .ok (.bipush 100, 2) := by decide +kernel
theorem dX5_keepTime_26 : decode cX5_keepTime 26 = .ok (.idiv, 1) := by decide +kernel
theorem dX5_keepTime_27 : decode cX5_keepTime 27 = .ok (.istore 5, 2) := by decide +kernel
theorem dX5_keepTime_29 : decode cX5_keepTime 29 = .ok (.aload_n 0, 1) := by decide +kernel
theorem dX5_keepTime_30 : decode cX5_keepTime 30 = .ok (.iload_n 1, 1) := by decide +kernel
theorem dX5_keepTime_31 : decode cX5_keepTime 31 = .ok (.iconst 1, 1) := by decide +kernel
theorem dX5_keepTime_32 : decode cX5_keepTime 32 = .ok (.isub, 1) := by decide +kernel
theorem dX5_keepTime_33 : decode cX5_keepTime 33 = .ok (.invokevirtual 46, 3) := by decide +kernel
theorem dX5_keepTime_36 : decode cX5_keepTime 36 = .ok (.aload_n 0, 1) := by decide +kernel
theorem dX5_keepTime_37 : decode cX5_keepTime 37 = .ok (.getfield 22, 3) := by decide +kernel
theorem dX5_keepTime_40 : decode cX5_keepTime 40 = .ok (.iadd, 1) := by decide +kernel
theorem dX5_keepTime_41 : decode cX5_keepTime 41 = .ok (.iload 5, 2) := by decide +kernel
theorem dX5_keepTime_43 : decode cX5_keepTime 43 = .ok (.isub, 1) := by decide +kernel
theorem dX5_keepTime_44 : decode cX5_keepTime 44 = .ok (.istore 6, 2) := by decide +kernel
theorem dX5_keepTime_46 : decode cX5_keepTime 46 = .ok (.aload_n 0, 1) := by decide +kernel
theorem dX5_keepTime_47 : decode cX5_keepTime 47 = .ok (.getfield 11, 3) := by decide +kernel
theorem dX5_keepTime_50 : decode cX5_keepTime 50 = .ok (.iload_n 1, 1) := by decide +kernel
theorem dX5_keepTime_51 : decode cX5_keepTime 51 = .ok (.bipush 63, 2) := by decide +kernel
theorem dX5_keepTime_53 : decode cX5_keepTime 53 = .ok (.iand, 1) := by decide +kernel
theorem dX5_keepTime_54 : decode cX5_keepTime 54 = .ok (.ldc 55, 2) := by decide +kernel
theorem dX5_keepTime_56 : decode cX5_keepTime 56 = .ok (.ldc 56, 2) := by decide +kernel
theorem dX5_keepTime_58 : decode cX5_keepTime 58 = .ok (.iload 6, 2) := by decide +kernel
theorem dX5_keepTime_60 : decode cX5_keepTime 60 = .ok (.invokestatic 57, 3) := by decide +kernel
theorem dX5_keepTime_63 : decode cX5_keepTime 63 = .ok (.invokestatic 61, 3) := by decide +kernel
theorem dX5_keepTime_66 : decode cX5_keepTime 66 = .ok (.iastore, 1) := by decide +kernel
theorem dX5_keepTime_67 : decode cX5_keepTime 67 = .ok (.return_, 1) := by decide +kernel
theorem dX6_init_0 : decode cX6_init 0 = .ok (.aload_n 0, 1) := by decide +kernel
theorem dX6_init_1 : decode cX6_init 1 = .ok (.invokespecial 3, 3) := by decide +kernel
theorem dX6_init_4 : decode cX6_init 4 = .ok (.aload_n 0, 1) := by decide +kernel
theorem dX6_init_5 : decode cX6_init 5 = .ok (.sipush 1000, 3) := by decide +kernel
theorem dX6_init_8 : decode cX6_init 8 = .ok (.newarray .byte, 2) := by decide +kernel
theorem dX6_init_10 : decode cX6_init 10 = .ok (.putfield 9, 3) := by decide +kernel
theorem dX6_init_13 : decode cX6_init 13 = .ok (.return_, 1) := by decide +kernel
theorem dX6_appendWord_0 : decode cX6_appendWord 0 = .ok (.bipush 24, 2) := by decide +kernel
theorem dX6_appendWord_2 : decode cX6_appendWord 2 = .ok (.istore_n 2, 1) := by decide +kernel
theorem dX6_appendWord_3 : decode cX6_appendWord 3 = .ok (.iload_n 2, 1) := by decide +kernel
theorem dX6_appendWord_4 : decode cX6_appendWord 4 = .ok (.ifCond .lt 42, 3) := by decide +kernel
theorem dX6_appendWord_7 : decode cX6_appendWord 7 = .ok (.aload_n 0, 1) := by decide +kernel
theorem dX6_appendWord_8 : decode cX6_appendWord 8 = .ok (.getfield 15, 3) := by decide +kernel
theorem dX6_appendWord_11 : decode cX6_appendWord 11 = .ok (.sipush 1000, 3) := by decide +kernel
theorem dX6_appendWord_14 : decode cX6_appendWord 14 = .ok (.if_icmp .ge 32, 3) := by decide +kernel
theorem dX6_appendWord_17 : decode cX6_appendWord 17 = .ok (.aload_n 0, 1) := by decide +kernel
theorem dX6_appendWord_18 : decode cX6_appendWord 18 = .ok (.getfield 9, 3) := by decide +kernel
theorem dX6_appendWord_21 : decode cX6_appendWord 21 = .ok (.aload_n 0, 1) := by decide +kernel
theorem dX6_appendWord_22 : decode cX6_appendWord 22 = .ok (.getfield 15, 3) := by decide +kernel
theorem dX6_appendWord_25 : decode cX6_appendWord 25 = .ok (.iload_n 1, 1) := by decide +kernel
theorem dX6_appendWord_26 : decode cX6_appendWord 26 = .ok (.iload_n 2, 1) := by decide +kernel
theorem dX6_appendWord_27 : decode cX6_appendWord 27 = .ok (.ishr, 1) := by decide +kernel
theorem dX6_appendWord_28 : decode cX6_appendWord 28 = .ok (.i2b, 1) := by decide +kernel
theorem dX6_appendWord_29 : decode cX6_appendWord 29 = .ok (.bastore, 1) := by decide +kernel
theorem dX6_appendWord_30 : decode cX6_appendWord 30 = .ok (.aload_n 0, 1) := by decide +kernel
theorem dX6_appendWord_31 : decode cX6_appendWord 31 = .ok (.dup, 1) := by decide +kernel
theorem dX6_appendWord_32 : decode cX6_appendWord 32 = .ok (.getfield 15, 3) := by decide +kernel
theorem dX6_appendWord_35 : decode cX6_appendWord 35 = .ok (.iconst 1, 1) := by decide +kernel
theorem dX6_appendWord_36 : decode cX6_appendWord 36 = .ok (.iadd, 1) := by decide +kernel
theorem dX6_appendWord_37 : decode cX6_appendWord 37 = .ok (.putfield 15, 3) := by decide +kernel
theorem dX6_appendWord_40 : decode cX6_appendWord 40 = .ok (.iinc 2 (-8), 3) := by decide +kernel
theorem dX6_appendWord_43 : decode cX6_appendWord 43 = .ok (.goto (-40), 3) := by decide +kernel
theorem dX6_appendWord_46 : decode cX6_appendWord 46 = .ok (.return_, 1) := by decide +kernel
theorem dX6_begin_0 : decode cX6_begin 0 = .ok (.aload_n 0, 1) := by decide +kernel
theorem dX6_begin_1 : decode cX6_begin 1 = .ok (.iload_n 1, 1) := by decide +kernel
theorem dX6_begin_2 : decode cX6_begin 2 = .ok (.aload_n 0, 1) := by decide +kernel
theorem dX6_begin_3 : decode cX6_begin 3 = .ok (.getfield 15, 3) := by decide +kernel
theorem dX6_begin_6 : decode cX6_begin 6 = .ok (.invokestatic 19, 3) := by decide +kernel
theorem dX6_begin_9 : decode cX6_begin 9 = .ok (.putfield 25, 3) := by decide +kernel
theorem dX6_begin_12 : decode cX6_begin 12 = .ok (.aload_n 0, 1) := by decide +kernel
theorem dX6_begin_13 : decode cX6_begin 13 = .ok (.iconst 0, 1) := by decide +kernel
theorem dX6_begin_14 : decode cX6_begin 14 = .ok (.putfield 28, 3) := by decide +kernel
theorem dX6_begin_17 : decode cX6_begin 17 = .ok (.aload_n 0, 1) := by decide +kernel
theorem dX6_begin_18 : decode cX6_begin 18 = .ok (.invokevirtual 31, 3) := by decide +kernel
theorem dX6_begin_21 : decode cX6_begin 21 = .ok (.return_, 1) := by decide +kernel
theorem dX6_step_0 : decode cX6_step 0 = .ok (.aload_n 0, 1) := by decide +kernel
theorem dX6_step_1 : decode cX6_step 1 = .ok (.getfield 28, 3) := by decide +kernel
theorem dX6_step_4 : decode cX6_step 4 = .ok (.aload_n 0, 1) := by decide +kernel
theorem dX6_step_5 : decode cX6_step 5 = .ok (.getfield 25, 3) := by decide +kernel
theorem dX6_step_8 : decode cX6_step 8 = .ok (.if_icmp .ge 42, 3) := by decide +kernel
theorem dX6_step_11 : decode cX6_step 11 = .ok (.aload_n 0, 1) := by decide +kernel
theorem dX6_step_12 : decode cX6_step 12 = .ok (.aload_n 0, 1) := by decide +kernel
theorem dX6_step_13 : decode cX6_step 13 = .ok (.getfield 28, 3) := by decide +kernel
theorem dX6_step_16 : decode cX6_step 16 = .ok (.invokevirtual 34, 3) := by decide +kernel
theorem dX6_step_19 : decode cX6_step 19 = .ok (.bipush 32, 2) := by decide +kernel
theorem dX6_step_21 : decode cX6_step 21 = .ok (.if_icmp .eq 16, 3) := by decide +kernel
theorem dX6_step_24 : decode cX6_step 24 = .ok (.aload_n 0, 1) := by decide +kernel
theorem dX6_step_25 : decode cX6_step 25 = .ok (.aload_n 0, 1) := by decide +kernel
theorem dX6_step_26 : decode cX6_step 26 = .ok (.getfield 28, 3) := by decide +kernel
theorem dX6_step_29 : decode cX6_step 29 = .ok (.invokevirtual 34, 3) := by decide +kernel
theorem dX6_step_32 : decode cX6_step 32 = .ok (.bipush 10, 2) := by decide +kernel
theorem dX6_step_34 : decode cX6_step 34 = .ok (.if_icmp .ne 16, 3) := by decide +kernel
theorem dX6_step_37 : decode cX6_step 37 = .ok (.aload_n 0, 1) := by decide +kernel
theorem dX6_step_38 : decode cX6_step 38 = .ok (.dup, 1) := by decide +kernel
theorem dX6_step_39 : decode cX6_step 39 = .ok (.getfield 28, 3) := by decide +kernel
theorem dX6_step_42 : decode cX6_step 42 = .ok (.iconst 1, 1) := by decide +kernel
theorem dX6_step_43 : decode cX6_step 43 = .ok (.iadd, 1) := by decide +kernel
theorem dX6_step_44 : decode cX6_step 44 = .ok (.putfield 28, 3) := by decide +kernel
theorem dX6_step_47 : decode cX6_step 47 = .ok (.goto (-47), 3) := by decide +kernel
theorem dX6_step_50 : decode cX6_step 50 = .ok (.aload_n 0, 1) := by decide +kernel
theorem dX6_step_51 : decode cX6_step 51 = .ok (.aload_n 0, 1) := by decide +kernel
theorem dX6_step_52 : decode cX6_step 52 = .ok (.getfield 28, 3) := by decide +kernel
theorem dX6_step_55 : decode cX6_step 55 = .ok (.putfield 38, 3) := by decide +kernel
theorem dX6_step_58 : decode cX6_step 58 = .ok (.aload_n 0, 1) := by decide +kernel
theorem dX6_step_59 : decode cX6_step 59 = .ok (.aload_n 0, 1) := by decide +kernel
theorem dX6_step_60 : decode cX6_step 60 = .ok (.getfield 38, 3) := by decide +kernel
theorem dX6_step_63 : decode cX6_step 63 = .ok (.invokevirtual 34, 3) := by decide +kernel
theorem dX6_step_66 : decode cX6_step 66 = .ok (.istore_n 1, 1) := by decide +kernel
theorem dX6_step_67 : decode cX6_step 67 = .ok (.aload_n 0, 1) := by decide +kernel
theorem dX6_step_68 : decode cX6_step 68 = .ok (.getfield 38, 3) := by decide +kernel
theorem dX6_step_71 : decode cX6_step 71 = .ok (.aload_n 0, 1) := by decide +kernel
theorem dX6_step_72 : decode cX6_step 72 = .ok (.getfield 25, 3) := by decide +kernel
theorem dX6_step_75 : decode cX6_step 75 = .ok (.if_icmp .lt 11, 3) := by decide +kernel
theorem dX6_step_78 : decode cX6_step 78 = .ok (.aload_n 0, 1) := by decide +kernel
theorem dX6_step_79 : decode cX6_step 79 = .ok (.iconst 0, 1) := by decide +kernel
theorem dX6_step_80 : decode cX6_step 80 = .ok (.putfield 41, 3) := by decide +kernel
theorem dX6_step_83 : decode cX6_step 83 = .ok (.goto 171, 3) := by decide +kernel
theorem dX6_step_86 : decode cX6_step 86 = .ok (.iload_n 1, 1) := by decide +kernel
theorem dX6_step_87 : decode cX6_step 87 = .ok (.invokestatic 44, 3) := by decide +kernel
theorem dX6_step_90 : decode cX6_step 90 = .ok (.ifCond .eq 46, 3) := by decide +kernel
theorem dX6_step_93 : decode cX6_step 93 = .ok (.aload_n 0, 1) := by decide +kernel
theorem dX6_step_94 : decode cX6_step 94 = .ok (.iconst 1, 1) := by decide +kernel
theorem dX6_step_95 : decode cX6_step 95 = .ok (.putfield 41, 3) := by decide +kernel
theorem dX6_step_98 : decode cX6_step 98 = .ok (.aload_n 0, 1) := by decide +kernel
theorem dX6_step_99 : decode cX6_step 99 = .ok (.getfield 28, 3) := by decide +kernel
theorem dX6_step_102 : decode cX6_step 102 = .ok (.aload_n 0, 1) := by decide +kernel
theorem dX6_step_103 : decode cX6_step 103 = .ok (.getfield 25, 3) := by decide +kernel
theorem dX6_step_106 : decode cX6_step 106 = .ok (.if_icmp .ge 148, 3) := by decide +kernel
theorem dX6_step_109 : decode cX6_step 109 = .ok (.aload_n 0, 1) := by decide +kernel
theorem dX6_step_110 : decode cX6_step 110 = .ok (.aload_n 0, 1) := by decide +kernel
theorem dX6_step_111 : decode cX6_step 111 = .ok (.getfield 28, 3) := by decide +kernel
theorem dX6_step_114 : decode cX6_step 114 = .ok (.invokevirtual 34, 3) := by decide +kernel
theorem dX6_step_117 : decode cX6_step 117 = .ok (.invokestatic 44, 3) := by decide +kernel
theorem dX6_step_120 : decode cX6_step 120 = .ok (.ifCond .eq 134, 3) := by decide +kernel
theorem dX6_step_123 : decode cX6_step 123 = .ok (.aload_n 0, 1) := by decide +kernel
theorem dX6_step_124 : decode cX6_step 124 = .ok (.dup, 1) := by decide +kernel
theorem dX6_step_125 : decode cX6_step 125 = .ok (.getfield 28, 3) := by decide +kernel
theorem dX6_step_128 : decode cX6_step 128 = .ok (.iconst 1, 1) := by decide +kernel
theorem dX6_step_129 : decode cX6_step 129 = .ok (.iadd, 1) := by decide +kernel
theorem dX6_step_130 : decode cX6_step 130 = .ok (.putfield 28, 3) := by decide +kernel
theorem dX6_step_133 : decode cX6_step 133 = .ok (.goto (-35), 3) := by decide +kernel
theorem dX6_step_136 : decode cX6_step 136 = .ok (.iload_n 1, 1) := by decide +kernel
theorem dX6_step_137 : decode cX6_step 137 = .ok (.invokestatic 48, 3) := by decide +kernel
theorem dX6_step_140 : decode cX6_step 140 = .ok (.ifCond .eq 79, 3) := by decide +kernel
theorem dX6_step_143 : decode cX6_step 143 = .ok (.aload_n 0, 1) := by decide +kernel
theorem dX6_step_144 : decode cX6_step 144 = .ok (.iconst 2, 1) := by decide +kernel
theorem dX6_step_145 : decode cX6_step 145 = .ok (.putfield 41, 3) := by decide +kernel
theorem dX6_step_148 : decode cX6_step 148 = .ok (.aload_n 0, 1) := by decide +kernel
theorem dX6_step_149 : decode cX6_step 149 = .ok (.iconst 0, 1) := by decide +kernel
theorem dX6_step_150 : decode cX6_step 150 = .ok (.putfield 51, 3) := by decide +kernel
theorem dX6_step_153 : decode cX6_step 153 = .ok (.aload_n 0, 1) := by decide +kernel
theorem dX6_step_154 : decode cX6_step 154 = .ok (.getfield 28, 3) := by decide +kernel
theorem dX6_step_157 : decode cX6_step 157 = .ok (.aload_n 0, 1) := by decide +kernel
theorem dX6_step_158 : decode cX6_step 158 = .ok (.getfield 25, 3) := by decide +kernel
theorem dX6_step_161 : decode cX6_step 161 = .ok (.if_icmp .ge 93, 3) := by decide +kernel
theorem dX6_step_164 : decode cX6_step 164 = .ok (.aload_n 0, 1) := by decide +kernel
theorem dX6_step_165 : decode cX6_step 165 = .ok (.aload_n 0, 1) := by decide +kernel
theorem dX6_step_166 : decode cX6_step 166 = .ok (.getfield 28, 3) := by decide +kernel
theorem dX6_step_169 : decode cX6_step 169 = .ok (.invokevirtual 34, 3) := by decide +kernel
theorem dX6_step_172 : decode cX6_step 172 = .ok (.invokestatic 48, 3) := by decide +kernel
theorem dX6_step_175 : decode cX6_step 175 = .ok (.ifCond .eq 79, 3) := by decide +kernel
theorem dX6_step_178 : decode cX6_step 178 = .ok (.aload_n 0, 1) := by decide +kernel
theorem dX6_step_179 : decode cX6_step 179 = .ok (.ldc 54, 2) := by decide +kernel
theorem dX6_step_181 : decode cX6_step 181 = .ok (.bipush 10, 2) := by decide +kernel
theorem dX6_step_183 : decode cX6_step 183 = .ok (.aload_n 0, 1) := by decide +kernel
theorem dX6_step_184 : decode cX6_step 184 = .ok (.getfield 51, 3) := by decide +kernel
theorem dX6_step_187 : decode cX6_step 187 = .ok (.imul, 1) := by decide +kernel
theorem dX6_step_188 : decode cX6_step 188 = .ok (.aload_n 0, 1) := by decide +kernel
theorem dX6_step_189 : decode cX6_step 189 = .ok (.aload_n 0, 1) := by decide +kernel
theorem dX6_step_190 : decode cX6_step 190 = .ok (.getfield 28, 3) := by decide +kernel
theorem dX6_step_193 : decode cX6_step 193 = .ok (.invokevirtual 34, 3) := by decide +kernel
theorem dX6_step_196 : decode cX6_step 196 = .ok (.iadd, 1) := by decide +kernel
theorem dX6_step_197 : decode cX6_step 197 = .ok (.bipush 48, 2) := by decide +kernel
theorem dX6_step_199 : decode cX6_step 199 = .ok (.isub, 1) := by decide +kernel
theorem dX6_step_200 : decode cX6_step 200 = .ok (.invokestatic 19, 3) := by decide +kernel
theorem dX6_step_203 : decode cX6_step 203 = .ok (.putfield 51, 3) := by decide +kernel
theorem dX6_step_206 : decode cX6_step 206 = .ok (.aload_n 0, 1) := by decide +kernel
theorem dX6_step_207 : decode cX6_step 207 = .ok (.dup, 1) := by decide +kernel
theorem dX6_step_208 : decode cX6_step 208 = .ok (.getfield 28, 3) := by decide +kernel
theorem dX6_step_211 : decode cX6_step 211 = .ok (.iconst 1, 1) := by decide +kernel
theorem dX6_step_212 : decode cX6_step 212 = .ok (.iadd, 1) := by decide +kernel
theorem dX6_step_213 : decode cX6_step 213 = .ok (.putfield 28, 3) := by decide +kernel
theorem dX6_step_216 : decode cX6_step 216 = .ok (.goto (-63), 3) := by decide +kernel
theorem dX6_step_219 : decode cX6_step 219 = .ok (.aload_n 0, 1) := by decide +kernel
theorem dX6_step_220 : decode cX6_step 220 = .ok (.iload_n 1, 1) := by decide +kernel
theorem dX6_step_221 : decode cX6_step 221 = .ok (.bipush 59, 2) := by decide +kernel
theorem dX6_step_223 : decode cX6_step 223 = .ok (.if_icmp .ne 7, 3) := by decide +kernel
theorem dX6_step_226 : decode cX6_step 226 = .ok (.iconst 3, 1) := by decide +kernel
theorem dX6_step_227 : decode cX6_step 227 = .ok (.goto 14, 3) := by decide +kernel
theorem dX6_step_230 : decode cX6_step 230 = .ok (.iload_n 1, 1) := by decide +kernel
theorem dX6_step_231 : decode cX6_step 231 = .ok (.bipush 45, 2) := by decide +kernel
theorem dX6_step_233 : decode cX6_step 233 = .ok (.if_icmp .ne 7, 3) := by decide +kernel
theorem dX6_step_236 : decode cX6_step 236 = .ok (.iconst 4, 1) := by decide +kernel
theorem dX6_step_237 : decode cX6_step 237 = .ok (.goto 4, 3) := by decide +kernel
theorem dX6_step_240 : decode cX6_step 240 = .ok (.iconst 5, 1) := by decide +kernel
theorem dX6_step_241 : decode cX6_step 241 = .ok (.putfield 41, 3) := by decide +kernel
theorem dX6_step_244 : decode cX6_step 244 = .ok (.aload_n 0, 1) := by decide +kernel
theorem dX6_step_245 : decode cX6_step 245 = .ok (.dup, 1) := by decide +kernel
theorem dX6_step_246 : decode cX6_step 246 = .ok (.getfield 28, 3) := by decide +kernel
theorem dX6_step_249 : decode cX6_step 249 = .ok (.iconst 1, 1) := by decide +kernel
theorem dX6_step_250 : decode cX6_step 250 = .ok (.iadd, 1) := by decide +kernel
theorem dX6_step_251 : decode cX6_step 251 = .ok (.putfield 28, 3) := by decide +kernel
theorem dX6_step_254 : decode cX6_step 254 = .ok (.return_, 1) := by decide +kernel
theorem dX6_isWord_0 : decode cX6_isWord 0 = .ok (.aload_n 0, 1) := by decide +kernel
theorem dX6_isWord_1 : decode cX6_isWord 1 = .ok (.getfield 41, 3) := by decide +kernel
theorem dX6_isWord_4 : decode cX6_isWord 4 = .ok (.iconst 1, 1) := by decide +kernel
theorem dX6_isWord_5 : decode cX6_isWord 5 = .ok (.if_icmp .ne 19, 3) := by decide +kernel
theorem dX6_isWord_8 : decode cX6_isWord 8 = .ok (.aload_n 0, 1) := by decide +kernel
theorem dX6_isWord_9 : decode cX6_isWord 9 = .ok (.getfield 28, 3) := by decide +kernel
theorem dX6_isWord_12 : decode cX6_isWord 12 = .ok (.aload_n 0, 1) := by decide +kernel
theorem dX6_isWord_13 : decode cX6_isWord 13 = .ok (.getfield 38, 3) := by decide +kernel
theorem dX6_isWord_16 : decode cX6_isWord 16 = .ok (.isub, 1) := by decide +kernel
theorem dX6_isWord_17 : decode cX6_isWord 17 = .ok (.aload_n 1, 1) := by decide +kernel
theorem dX6_isWord_18 : decode cX6_isWord 18 = .ok (.invokevirtual 55, 3) := by decide +kernel
theorem dX6_isWord_21 : decode cX6_isWord 21 = .ok (.if_icmp .eq 5, 3) := by decide +kernel
theorem dX6_isWord_24 : decode cX6_isWord 24 = .ok (.iconst 0, 1) := by decide +kernel
theorem dX6_isWord_25 : decode cX6_isWord 25 = .ok (.ireturn, 1) := by decide +kernel
theorem dX6_isWord_26 : decode cX6_isWord 26 = .ok (.iconst 0, 1) := by decide +kernel
theorem dX6_isWord_27 : decode cX6_isWord 27 = .ok (.istore_n 2, 1) := by decide +kernel
theorem dX6_isWord_28 : decode cX6_isWord 28 = .ok (.iload_n 2, 1) := by decide +kernel
theorem dX6_isWord_29 : decode cX6_isWord 29 = .ok (.aload_n 1, 1) := by decide +kernel
theorem dX6_isWord_30 : decode cX6_isWord 30 = .ok (.invokevirtual 55, 3) := by decide +kernel
theorem dX6_isWord_33 : decode cX6_isWord 33 = .ok (.if_icmp .ge 29, 3) := by decide +kernel
theorem dX6_isWord_36 : decode cX6_isWord 36 = .ok (.aload_n 0, 1) := by decide +kernel
theorem dX6_isWord_37 : decode cX6_isWord 37 = .ok (.aload_n 0, 1) := by decide +kernel
theorem dX6_isWord_38 : decode cX6_isWord 38 = .ok (.getfield 38, 3) := by decide +kernel
theorem dX6_isWord_41 : decode cX6_isWord 41 = .ok (.iload_n 2, 1) := by decide +kernel
theorem dX6_isWord_42 : decode cX6_isWord 42 = .ok (.iadd, 1) := by decide +kernel
theorem dX6_isWord_43 : decode cX6_isWord 43 = .ok (.invokevirtual 34, 3) := by decide +kernel
theorem dX6_isWord_46 : decode cX6_isWord 46 = .ok (.aload_n 1, 1) := by decide +kernel
theorem dX6_isWord_47 : decode cX6_isWord 47 = .ok (.iload_n 2, 1) := by decide +kernel
theorem dX6_isWord_48 : decode cX6_isWord 48 = .ok (.invokevirtual 60, 3) := by decide +kernel
theorem dX6_isWord_51 : decode cX6_isWord 51 = .ok (.if_icmp .eq 5, 3) := by decide +kernel
theorem dX6_isWord_54 : decode cX6_isWord 54 = .ok (.iconst 0, 1) := by decide +kernel
theorem dX6_isWord_55 : decode cX6_isWord 55 = .ok (.ireturn, 1) := by decide +kernel
theorem dX6_isWord_56 : decode cX6_isWord 56 = .ok (.iinc 2 1, 3) := by decide +kernel
theorem dX6_isWord_59 : decode cX6_isWord 59 = .ok (.goto (-31), 3) := by decide +kernel
theorem dX6_isWord_62 : decode cX6_isWord 62 = .ok (.iconst 1, 1) := by decide +kernel
theorem dX6_isWord_63 : decode cX6_isWord 63 = .ok (.ireturn, 1) := by decide +kernel
theorem dX6_isShortWord_0 : decode cX6_isShortWord 0 = .ok (.aload_n 0, 1) := by decide +kernel
theorem dX6_isShortWord_1 : decode cX6_isShortWord 1 = .ok (.getfield 41, 3) := by decide +kernel
theorem dX6_isShortWord_4 : decode cX6_isShortWord 4 = .ok (.iconst 1, 1) := by decide +kernel
theorem dX6_isShortWord_5 : decode cX6_isShortWord 5 = .ok (.if_icmp .ne 21, 3) := by decide +kernel
theorem dX6_isShortWord_8 : decode cX6_isShortWord 8 = .ok (.aload_n 0, 1) := by decide +kernel
theorem dX6_isShortWord_9 : decode cX6_isShortWord 9 = .ok (.getfield 28, 3) := by decide +kernel
theorem dX6_isShortWord_12 : decode cX6_isShortWord 12 = .ok (.aload_n 0, 1) := by decide +kernel
theorem dX6_isShortWord_13 : decode cX6_isShortWord 13 = .ok (.getfield 38, 3) := by decide +kernel
theorem dX6_isShortWord_16 : decode cX6_isShortWord 16 = .ok (.isub, 1) := by decide +kernel
theorem dX6_isShortWord_17 : decode cX6_isShortWord 17 = .ok (.bipush 6, 2) := by decide +kernel
theorem dX6_isShortWord_19 : decode cX6_isShortWord 19 = .ok (.if_icmp .gt 7, 3) := by decide +kernel
theorem dX6_isShortWord_22 : decode cX6_isShortWord 22 = .ok (.iconst 1, 1) := by decide +kernel
theorem dX6_isShortWord_23 : decode cX6_isShortWord 23 = .ok (.goto 4, 3) := by decide +kernel
theorem dX6_isShortWord_26 : decode cX6_isShortWord 26 = .ok (.iconst 0, 1) := by decide +kernel
theorem dX6_isShortWord_27 : decode cX6_isShortWord 27 = .ok (.ireturn, 1) := by decide +kernel
theorem dX6_packedLetters_0 : decode cX6_packedLetters 0 = .ok (.iconst 0, 1) := by decide +kernel
theorem dX6_packedLetters_1 : decode cX6_packedLetters 1 = .ok (.istore_n 1, 1) := by decide +kernel
theorem dX6_packedLetters_2 : decode cX6_packedLetters 2 = .ok (.iconst 0, 1) := by decide +kernel
theorem dX6_packedLetters_3 : decode cX6_packedLetters 3 = .ok (.istore_n 2, 1) := by decide +kernel
theorem dX6_packedLetters_4 : decode cX6_packedLetters 4 = .ok (.iload_n 2, 1) := by decide +kernel
theorem dX6_packedLetters_5 : decode cX6_packedLetters 5 = .ok (.bipush 6, 2) := by decide +kernel
theorem dX6_packedLetters_7 : decode cX6_packedLetters 7 = .ok (.if_icmp .ge 48, 3) := by decide +kernel
theorem dX6_packedLetters_10 : decode cX6_packedLetters 10 = .ok (.aload_n 0, 1) := by decide +kernel
theorem dX6_packedLetters_11 : decode cX6_packedLetters 11 = .ok (.getfield 38, 3) := by decide +kernel
theorem dX6_packedLetters_14 : decode cX6_packedLetters 14 = .ok (.iload_n 2, 1) := by decide +kernel
theorem dX6_packedLetters_15 : decode cX6_packedLetters 15 = .ok (.iadd, 1) := by decide +kernel
theorem dX6_packedLetters_16 : decode cX6_packedLetters 16 = .ok (.aload_n 0, 1) := by decide +kernel
theorem dX6_packedLetters_17 : decode cX6_packedLetters 17 = .ok (.getfield 28, 3) := by decide +kernel
theorem dX6_packedLetters_20 : decode cX6_packedLetters 20 = .ok (.if_icmp .ge 21, 3) := by decide +kernel
theorem dX6_packedLetters_23 : decode cX6_packedLetters 23 = .ok (.aload_n 0, 1) := by decide +kernel
theorem dX6_packedLetters_24 : decode cX6_packedLetters 24 = .ok (.aload_n 0, 1) := by decide +kernel
theorem dX6_packedLetters_25 : decode cX6_packedLetters 25 = .ok (.getfield 38, 3) := by decide +kernel
theorem dX6_packedLetters_28 : decode cX6_packedLetters 28 = .ok (.iload_n 2, 1) := by decide +kernel
theorem dX6_packedLetters_29 : decode cX6_packedLetters 29 = .ok (.iadd, 1) := by decide +kernel
theorem dX6_packedLetters_30 : decode cX6_packedLetters 30 = .ok (.invokevirtual 34, 3) := by decide +kernel
theorem dX6_packedLetters_33 : decode cX6_packedLetters 33 = .ok (.bipush 97, 2) := by decide +kernel
theorem dX6_packedLetters_35 : decode cX6_packedLetters 35 = .ok (.isub, 1) := by decide +kernel
theorem dX6_packedLetters_36 : decode cX6_packedLetters 36 = .ok (.iconst 1, 1) := by decide +kernel
theorem dX6_packedLetters_37 : decode cX6_packedLetters 37 = .ok (.iadd, 1) := by decide +kernel
theorem dX6_packedLetters_38 : decode cX6_packedLetters 38 = .ok (.goto 4, 3) := by decide +kernel
theorem dX6_packedLetters_41 : decode cX6_packedLetters 41 = .ok (.iconst 0, 1) := by decide +kernel
theorem dX6_packedLetters_42 : decode cX6_packedLetters 42 = .ok (.istore_n 3, 1) := by decide +kernel
theorem dX6_packedLetters_43 : decode cX6_packedLetters 43 = .ok (.iload_n 1, 1) := by decide +kernel
theorem dX6_packedLetters_44 : decode cX6_packedLetters 44 = .ok (.iconst 5, 1) := by decide +kernel
theorem dX6_packedLetters_45 : decode cX6_packedLetters 45 = .ok (.ishl, 1) := by decide +kernel
theorem dX6_packedLetters_46 : decode cX6_packedLetters 46 = .ok (.iload_n 3, 1) := by decide +kernel
theorem dX6_packedLetters_47 : decode cX6_packedLetters 47 = .ok (.ior, 1) := by decide +kernel
theorem dX6_packedLetters_48 : decode cX6_packedLetters 48 = .ok (.istore_n 1, 1) := by decide +kernel
theorem dX6_packedLetters_49 : decode cX6_packedLetters 49 = .ok (.iinc 2 1, 3) := by decide +kernel
theorem dX6_packedLetters_52 : decode cX6_packedLetters 52 = .ok (.goto (-48), 3) := by decide +kernel
theorem dX6_packedLetters_55 : decode cX6_packedLetters 55 = .ok (.iload_n 1, 1) := by decide +kernel
theorem dX6_packedLetters_56 : decode cX6_packedLetters 56 = .ok (.ireturn, 1) := by decide +kernel
theorem dX6_signAt_0 : decode cX6_signAt 0 = .ok (.iload_n 1, 1) := by decide +kernel
theorem dX6_signAt_1 : decode cX6_signAt 1 = .ok (.ifCond .lt 31, 3) := by decide +kernel
theorem dX6_signAt_4 : decode cX6_signAt 4 = .ok (.iload_n 1, 1) := by decide +kernel
theorem dX6_signAt_5 : decode cX6_signAt 5 = .ok (.aload_n 0, 1) := by decide +kernel
theorem dX6_signAt_6 : decode cX6_signAt 6 = .ok (.getfield 25, 3) := by decide +kernel
theorem dX6_signAt_9 : decode cX6_signAt 9 = .ok (.if_icmp .ge 23, 3) := by decide +kernel
theorem dX6_signAt_12 : decode cX6_signAt 12 = .ok (.iload_n 1, 1) := by decide +kernel
theorem dX6_signAt_13 : decode cX6_signAt 13 = .ok (.sipush 1000, 3) := by decide +kernel
theorem dX6_signAt_16 : decode cX6_signAt 16 = .ok (.if_icmp .ge 16, 3) := by decide +kernel
theorem dX6_signAt_19 : decode cX6_signAt 19 = .ok (.aload_n 0, 1) := by decide +kernel
theorem dX6_signAt_20 : decode cX6_signAt 20 = .ok (.getfield 9, 3) := by decide +kernel
theorem dX6_signAt_23 : decode cX6_signAt 23 = .ok (.iload_n 1, 1) := by decide +kernel
theorem dX6_signAt_24 : decode cX6_signAt 24 = .ok (.baload, 1) := by decide +kernel
theorem dX6_signAt_25 : decode cX6_signAt 25 = .ok (.sipush 255, 3) := by decide +kernel
theorem dX6_signAt_28 : decode cX6_signAt 28 = .ok (.iand, 1) := by decide +kernel
theorem dX6_signAt_29 : decode cX6_signAt 29 = .ok (.goto 4, 3) := by decide +kernel
theorem dX6_signAt_32 : decode cX6_signAt 32 = .ok (.iconst (-1), 1) := by decide +kernel
theorem dX6_signAt_33 : decode cX6_signAt 33 = .ok (.ireturn, 1) := by decide +kernel
theorem dX6_isLetter_0 : decode cX6_isLetter 0 = .ok (.iload_n 0, 1) := by decide +kernel
theorem dX6_isLetter_1 : decode cX6_isLetter 1 = .ok (.bipush 97, 2) := by decide +kernel
theorem dX6_isLetter_3 : decode cX6_isLetter 3 = .ok (.if_icmp .lt 13, 3) := by decide +kernel
theorem dX6_isLetter_6 : decode cX6_isLetter 6 = .ok (.iload_n 0, 1) := by decide +kernel
theorem dX6_isLetter_7 : decode cX6_isLetter 7 = .ok (.bipush 122, 2) := by decide +kernel
theorem dX6_isLetter_9 : decode cX6_isLetter 9 = .ok (.if_icmp .gt 7, 3) := by decide +kernel
theorem dX6_isLetter_12 : decode cX6_isLetter 12 = .ok (.iconst 1, 1) := by decide +kernel
theorem dX6_isLetter_13 : decode cX6_isLetter 13 = .ok (.goto 4, 3) := by decide +kernel
theorem dX6_isLetter_16 : decode cX6_isLetter 16 = .ok (.iconst 0, 1) := by decide +kernel
theorem dX6_isLetter_17 : decode cX6_isLetter 17 = .ok (.ireturn, 1) := by decide +kernel
theorem dX6_isDigit_0 : decode cX6_isDigit 0 = .ok (.iload_n 0, 1) := by decide +kernel
theorem dX6_isDigit_1 : decode cX6_isDigit 1 = .ok (.bipush 48, 2) := by decide +kernel
theorem dX6_isDigit_3 : decode cX6_isDigit 3 = .ok (.if_icmp .lt 13, 3) := by decide +kernel
theorem dX6_isDigit_6 : decode cX6_isDigit 6 = .ok (.iload_n 0, 1) := by decide +kernel
theorem dX6_isDigit_7 : decode cX6_isDigit 7 = .ok (.bipush 57, 2) := by decide +kernel
theorem dX6_isDigit_9 : decode cX6_isDigit 9 = .ok (.if_icmp .gt 7, 3) := by decide +kernel
theorem dX6_isDigit_12 : decode cX6_isDigit 12 = .ok (.iconst 1, 1) := by decide +kernel
theorem dX6_isDigit_13 : decode cX6_isDigit 13 = .ok (.goto 4, 3) := by decide +kernel
theorem dX6_isDigit_16 : decode cX6_isDigit 16 = .ok (.iconst 0, 1) := by decide +kernel
theorem dX6_isDigit_17 : decode cX6_isDigit 17 = .ok (.ireturn, 1) := by decide +kernel
