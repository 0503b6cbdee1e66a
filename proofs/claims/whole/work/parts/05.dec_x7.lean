theorem dX7_init_0 : decode cX7_init 0 = .ok (.aload_n 0, 1) := by decide +kernel
theorem dX7_init_1 : decode cX7_init 1 = .ok (.invokespecial 1, 3) := by decide +kernel
theorem dX7_init_4 : decode cX7_init 4 = .ok (.aload_n 0, 1) := by decide +kernel
theorem dX7_init_5 : decode cX7_init 5 = .ok (.new 7, 3) := by decide +kernel
theorem dX7_init_8 : decode cX7_init 8 = .ok (.dup, 1) := by decide +kernel
theorem dX7_init_9 : decode cX7_init 9 = .ok (.invokespecial 9, 3) := by decide +kernel
theorem dX7_init_12 : decode cX7_init 12 = .ok (.putfield 10, 3) := by decide +kernel
theorem dX7_init_15 : decode cX7_init 15 = .ok (.aload_n 0, 1) := by decide +kernel
theorem dX7_init_16 : decode cX7_init 16 = .ok (.new 7, 3) := by decide +kernel
theorem dX7_init_19 : decode cX7_init 19 = .ok (.dup, 1) := by decide +kernel
theorem dX7_init_20 : decode cX7_init 20 = .ok (.invokespecial 9, 3) := by decide +kernel
theorem dX7_init_23 : decode cX7_init 23 = .ok (.putfield 16, 3) := by decide +kernel
theorem dX7_init_26 : decode cX7_init 26 = .ok (.aload_n 0, 1) := by decide +kernel
theorem dX7_init_27 : decode cX7_init 27 = .ok (.new 19, 3) := by decide +kernel
theorem dX7_init_30 : decode cX7_init 30 = .ok (.dup, 1) := by decide +kernel
theorem dX7_init_31 : decode cX7_init 31 = .ok (.invokespecial 21, 3) := by decide +kernel
theorem dX7_init_34 : decode cX7_init 34 = .ok (.putfield 22, 3) := by decide +kernel
theorem dX7_init_37 : decode cX7_init 37 = .ok (.aload_n 0, 1) := by decide +kernel
theorem dX7_init_38 : decode cX7_init 38 = .ok (.new 26, 3) := by decide +kernel
theorem dX7_init_41 : decode cX7_init 41 = .ok (.dup, 1) := by decide +kernel
theorem dX7_init_42 : decode cX7_init 42 = .ok (.invokespecial 28, 3) := by decide +kernel
theorem dX7_init_45 : decode cX7_init 45 = .ok (.putfield 29, 3) := by decide +kernel
theorem dX7_init_48 : decode cX7_init 48 = .ok (.aload_n 0, 1) := by decide +kernel
theorem dX7_init_49 : decode cX7_init 49 = .ok (.new 33, 3) := by decide +kernel
theorem dX7_init_52 : decode cX7_init 52 = .ok (.dup, 1) := by decide +kernel
theorem dX7_init_53 : decode cX7_init 53 = .ok (.invokespecial 35, 3) := by decide +kernel
theorem dX7_init_56 : decode cX7_init 56 = .ok (.putfield 36, 3) := by decide +kernel
theorem dX7_init_59 : decode cX7_init 59 = .ok (.return_, 1) := by decide +kernel
theorem dX7_feed_0 : decode cX7_feed 0 = .ok (.aload_n 0, 1) := by decide +kernel
theorem dX7_feed_1 : decode cX7_feed 1 = .ok (.getfield 36, 3) := by decide +kernel
theorem dX7_feed_4 : decode cX7_feed 4 = .ok (.iload_n 1, 1) := by decide +kernel
theorem dX7_feed_5 : decode cX7_feed 5 = .ok (.iload_n 2, 1) := by decide +kernel
theorem dX7_feed_6 : decode cX7_feed 6 = .ok (.iload_n 3, 1) := by decide +kernel
theorem dX7_feed_7 : decode cX7_feed 7 = .ok (.iload 4, 2) := by decide +kernel
theorem dX7_feed_9 : decode cX7_feed 9 = .ok (.iload 5, 2) := by decide +kernel
theorem dX7_feed_11 : decode cX7_feed 11 = .ok (.invokevirtual 40, 3) := by decide +kernel
theorem dX7_feed_14 : decode cX7_feed 14 = .ok (.ireturn, 1) := by decide +kernel
theorem dX7_load_0 : decode cX7_load 0 = .ok (.iload_n 1, 1) := by decide +kernel
theorem dX7_load_1 : decode cX7_load 1 = .ok (.ifCond .lt 17, 3) := by decide +kernel
theorem dX7_load_4 : decode cX7_load 4 = .ok (.iload_n 1, 1) := by decide +kernel
theorem dX7_load_5 : decode cX7_load 5 = .ok (.aload_n 0, 1) := by decide +kernel
theorem dX7_load_6 : decode cX7_load 6 = .ok (.getfield 36, 3) := by decide +kernel
theorem dX7_load_9 : decode cX7_load 9 = .ok (.getfield 44, 3) := by decide +kernel
theorem dX7_load_12 : decode cX7_load 12 = .ok (.getfield 48, 3) := by decide +kernel
theorem dX7_load_15 : decode cX7_load 15 = .ok (.if_icmp .le 6, 3) := by decide +kernel
theorem dX7_load_18 : decode cX7_load 18 = .ok (.bipush (-2), 2) := by decide +kernel
theorem dX7_load_20 : decode cX7_load 20 = .ok (.ireturn, 1) := by decide +kernel
theorem dX7_load_21 : decode cX7_load 21 = .ok (.aload_n 0, 1) := by decide +kernel
theorem dX7_load_22 : decode cX7_load 22 = .ok (.getfield 36, 3) := by decide +kernel
theorem dX7_load_25 : decode cX7_load 25 = .ok (.iload_n 1, 1) := by decide +kernel
theorem dX7_load_26 : decode cX7_load 26 = .ok (.invokevirtual 54, 3) := by decide +kernel
theorem dX7_load_29 : decode cX7_load 29 = .ok (.istore_n 2, 1) := by decide +kernel
theorem dX7_load_30 : decode cX7_load 30 = .ok (.iload_n 2, 1) := by decide +kernel
theorem dX7_load_31 : decode cX7_load 31 = .ok (.ifCond .lt 25, 3) := by decide +kernel
theorem dX7_load_34 : decode cX7_load 34 = .ok (.aload_n 0, 1) := by decide +kernel
theorem dX7_load_35 : decode cX7_load 35 = .ok (.getfield 10, 3) := by decide +kernel
theorem dX7_load_38 : decode cX7_load 38 = .ok (.aload_n 0, 1) := by decide +kernel
theorem dX7_load_39 : decode cX7_load 39 = .ok (.getfield 36, 3) := by decide +kernel
theorem dX7_load_42 : decode cX7_load 42 = .ok (.getfield 58, 3) := by decide +kernel
theorem dX7_load_45 : decode cX7_load 45 = .ok (.invokevirtual 61, 3) := by decide +kernel
theorem dX7_load_48 : decode cX7_load 48 = .ok (.aload_n 0, 1) := by decide +kernel
theorem dX7_load_49 : decode cX7_load 49 = .ok (.getfield 29, 3) := by decide +kernel
theorem dX7_load_52 : decode cX7_load 52 = .ok (.iconst 0, 1) := by decide +kernel
theorem dX7_load_53 : decode cX7_load 53 = .ok (.putfield 65, 3) := by decide +kernel
theorem dX7_load_56 : decode cX7_load 56 = .ok (.iload_n 2, 1) := by decide +kernel
theorem dX7_load_57 : decode cX7_load 57 = .ok (.ireturn, 1) := by decide +kernel
theorem dX7_errorPosition_0 : decode cX7_errorPosition 0 = .ok (.aload_n 0, 1) := by decide +kernel
theorem dX7_errorPosition_1 : decode cX7_errorPosition 1 = .ok (.getfield 36, 3) := by decide +kernel
theorem dX7_errorPosition_4 : decode cX7_errorPosition 4 = .ok (.getfield 68, 3) := by decide +kernel
theorem dX7_errorPosition_7 : decode cX7_errorPosition 7 = .ok (.ireturn, 1) := by decide +kernel
theorem dX7_stationCount_0 : decode cX7_stationCount 0 = .ok (.aload_n 0, 1) := by decide +kernel
theorem dX7_stationCount_1 : decode cX7_stationCount 1 = .ok (.getfield 10, 3) := by decide +kernel
theorem dX7_stationCount_4 : decode cX7_stationCount 4 = .ok (.getfield 71, 3) := by decide +kernel
theorem dX7_stationCount_7 : decode cX7_stationCount 7 = .ok (.ireturn, 1) := by decide +kernel
theorem dX7_callCount_0 : decode cX7_callCount 0 = .ok (.aload_n 0, 1) := by decide +kernel
theorem dX7_callCount_1 : decode cX7_callCount 1 = .ok (.getfield 10, 3) := by decide +kernel
theorem dX7_callCount_4 : decode cX7_callCount 4 = .ok (.getfield 74, 3) := by decide +kernel
theorem dX7_callCount_7 : decode cX7_callCount 7 = .ok (.ireturn, 1) := by decide +kernel
theorem dX7_carrierCount_0 : decode cX7_carrierCount 0 = .ok (.aload_n 0, 1) := by decide +kernel
theorem dX7_carrierCount_1 : decode cX7_carrierCount 1 = .ok (.getfield 10, 3) := by decide +kernel
theorem dX7_carrierCount_4 : decode cX7_carrierCount 4 = .ok (.getfield 77, 3) := by decide +kernel
theorem dX7_carrierCount_7 : decode cX7_carrierCount 7 = .ok (.ireturn, 1) := by decide +kernel
theorem dX7_undoCount_0 : decode cX7_undoCount 0 = .ok (.aload_n 0, 1) := by decide +kernel
theorem dX7_undoCount_1 : decode cX7_undoCount 1 = .ok (.getfield 29, 3) := by decide +kernel
theorem dX7_undoCount_4 : decode cX7_undoCount 4 = .ok (.getfield 65, 3) := by decide +kernel
theorem dX7_undoCount_7 : decode cX7_undoCount 7 = .ok (.ireturn, 1) := by decide +kernel
theorem dX7_stationNamed_0 : decode cX7_stationNamed 0 = .ok (.aload_n 0, 1) := by decide +kernel
theorem dX7_stationNamed_1 : decode cX7_stationNamed 1 = .ok (.getfield 10, 3) := by decide +kernel
theorem dX7_stationNamed_4 : decode cX7_stationNamed 4 = .ok (.iload_n 1, 1) := by decide +kernel
theorem dX7_stationNamed_5 : decode cX7_stationNamed 5 = .ok (.invokevirtual 80, 3) := by decide +kernel
theorem dX7_stationNamed_8 : decode cX7_stationNamed 8 = .ok (.ireturn, 1) := by decide +kernel
theorem dX7_now_0 : decode cX7_now 0 = .ok (.aload_n 0, 1) := by decide +kernel
theorem dX7_now_1 : decode cX7_now 1 = .ok (.getfield 10, 3) := by decide +kernel
theorem dX7_now_4 : decode cX7_now 4 = .ok (.getfield 83, 3) := by decide +kernel
theorem dX7_now_7 : decode cX7_now 7 = .ok (.ireturn, 1) := by decide +kernel
theorem dX7_getSetting_0 : decode cX7_getSetting 0 = .ok (.iload_n 1, 1) := by decide +kernel
theorem dX7_getSetting_1 : decode cX7_getSetting 1 = .ok (.iconst 0, 1) := by decide +kernel
theorem dX7_getSetting_2 : decode cX7_getSetting 2 = .ok (.bipush 6, 2) := by decide +kernel
theorem dX7_getSetting_4 : decode cX7_getSetting 4 = .ok (.invokestatic 86, 3) := by decide +kernel
theorem dX7_getSetting_7 : decode cX7_getSetting 7 = .ok (.ifCond .eq 15, 3) := by decide +kernel
theorem dX7_getSetting_10 : decode cX7_getSetting 10 = .ok (.aload_n 0, 1) := by decide +kernel
theorem dX7_getSetting_11 : decode cX7_getSetting 11 = .ok (.getfield 10, 3) := by decide +kernel
theorem dX7_getSetting_14 : decode cX7_getSetting 14 = .ok (.getfield 90, 3) := by decide +kernel
theorem dX7_getSetting_17 : decode cX7_getSetting 17 = .ok (.iload_n 1, 1) := by decide +kernel
theorem dX7_getSetting_18 : decode cX7_getSetting 18 = .ok (.iaload, 1) := by decide +kernel
theorem dX7_getSetting_19 : decode cX7_getSetting 19 = .ok (.goto 5, 3) := by decide +kernel
theorem dX7_getSetting_22 : decode cX7_getSetting 22 = .ok (.bipush (-2), 2) := by decide +kernel
theorem dX7_getSetting_24 : decode cX7_getSetting 24 = .ok (.ireturn, 1) := by decide +kernel
theorem dX7_fade_0 : decode cX7_fade 0 = .ok (.aload_n 0, 1) := by decide +kernel
theorem dX7_fade_1 : decode cX7_fade 1 = .ok (.iload_n 1, 1) := by decide +kernel
theorem dX7_fade_2 : decode cX7_fade 2 = .ok (.invokevirtual 94, 3) := by decide +kernel
theorem dX7_fade_5 : decode cX7_fade 5 = .ok (.pop, 1) := by decide +kernel
theorem dX7_fade_6 : decode cX7_fade 6 = .ok (.iload_n 2, 1) := by decide +kernel
theorem dX7_fade_7 : decode cX7_fade 7 = .ok (.iconst 0, 1) := by decide +kernel
theorem dX7_fade_8 : decode cX7_fade 8 = .ok (.sipush 9999, 3) := by decide +kernel
theorem dX7_fade_11 : decode cX7_fade 11 = .ok (.invokestatic 86, 3) := by decide +kernel
theorem dX7_fade_14 : decode cX7_fade 14 = .ok (.ifCond .eq 15, 3) := by decide +kernel
theorem dX7_fade_17 : decode cX7_fade 17 = .ok (.aload_n 0, 1) := by decide +kernel
theorem dX7_fade_18 : decode cX7_fade 18 = .ok (.getfield 10, 3) := by decide +kernel
theorem dX7_fade_21 : decode cX7_fade 21 = .ok (.iload_n 1, 1) := by decide +kernel
theorem dX7_fade_22 : decode cX7_fade 22 = .ok (.iload_n 2, 1) := by decide +kernel
theorem dX7_fade_23 : decode cX7_fade 23 = .ok (.invokevirtual 98, 3) := by decide +kernel
theorem dX7_fade_26 : decode cX7_fade 26 = .ok (.goto 5, 3) := by decide +kernel
theorem dX7_fade_29 : decode cX7_fade 29 = .ok (.bipush (-2), 2) := by decide +kernel
theorem dX7_fade_31 : decode cX7_fade 31 = .ok (.ireturn, 1) := by decide +kernel
theorem dX7_power_0 : decode cX7_power 0 = .ok (.aload_n 0, 1) := by decide +kernel
theorem dX7_power_1 : decode cX7_power 1 = .ok (.iload_n 1, 1) := by decide +kernel
theorem dX7_power_2 : decode cX7_power 2 = .ok (.invokevirtual 94, 3) := by decide +kernel
theorem dX7_power_5 : decode cX7_power 5 = .ok (.getfield 102, 3) := by decide +kernel
theorem dX7_power_8 : decode cX7_power 8 = .ok (.ireturn, 1) := by decide +kernel
theorem dX7_timingError_0 : decode cX7_timingError 0 = .ok (.aload_n 0, 1) := by decide +kernel
theorem dX7_timingError_1 : decode cX7_timingError 1 = .ok (.iload_n 1, 1) := by decide +kernel
theorem dX7_timingError_2 : decode cX7_timingError 2 = .ok (.invokevirtual 94, 3) := by decide +kernel
theorem dX7_timingError_5 : decode cX7_timingError 5 = .ok (.aload_n 0, 1) := by decide +kernel
theorem dX7_timingError_6 : decode cX7_timingError 6 = .ok (.getfield 10, 3) := by decide +kernel
theorem dX7_timingError_9 : decode cX7_timingError 9 = .ok (.getfield 83, 3) := by decide +kernel
theorem dX7_timingError_12 : decode cX7_timingError 12 = .ok (.invokevirtual 105, 3) := by decide +kernel
theorem dX7_timingError_15 : decode cX7_timingError 15 = .ok (.ireturn, 1) := by decide +kernel
theorem dX7_roundTrip_0 : decode cX7_roundTrip 0 = .ok (.aload_n 0, 1) := by decide +kernel
theorem dX7_roundTrip_1 : decode cX7_roundTrip 1 = .ok (.getfield 10, 3) := by decide +kernel
theorem dX7_roundTrip_4 : decode cX7_roundTrip 4 = .ok (.aload_n 0, 1) := by decide +kernel
theorem dX7_roundTrip_5 : decode cX7_roundTrip 5 = .ok (.iload_n 1, 1) := by decide +kernel
theorem dX7_roundTrip_6 : decode cX7_roundTrip 6 = .ok (.invokevirtual 94, 3) := by decide +kernel
theorem dX7_roundTrip_9 : decode cX7_roundTrip 9 = .ok (.invokevirtual 108, 3) := by decide +kernel
theorem dX7_roundTrip_12 : decode cX7_roundTrip 12 = .ok (.ireturn, 1) := by decide +kernel
theorem dX7_timingFaults_0 : decode cX7_timingFaults 0 = .ok (.aload_n 0, 1) := by decide +kernel
theorem dX7_timingFaults_1 : decode cX7_timingFaults 1 = .ok (.iload_n 1, 1) := by decide +kernel
theorem dX7_timingFaults_2 : decode cX7_timingFaults 2 = .ok (.invokevirtual 94, 3) := by decide +kernel
theorem dX7_timingFaults_5 : decode cX7_timingFaults 5 = .ok (.getfield 112, 3) := by decide +kernel
theorem dX7_timingFaults_8 : decode cX7_timingFaults 8 = .ok (.ireturn, 1) := by decide +kernel
theorem dX7_busiestStation_0 : decode cX7_busiestStation 0 = .ok (.iconst (-1), 1) := by decide +kernel
theorem dX7_busiestStation_1 : decode cX7_busiestStation 1 = .ok (.istore_n 1, 1) := by decide +kernel
theorem dX7_busiestStation_2 : decode cX7_busiestStation 2 = .ok (.iconst 0, 1) := by decide +kernel
theorem dX7_busiestStation_3 : decode cX7_busiestStation 3 = .ok (.istore_n 2, 1) := by decide +kernel
theorem dX7_busiestStation_4 : decode cX7_busiestStation 4 = .ok (.iconst 0, 1) := by decide +kernel
theorem dX7_busiestStation_5 : decode cX7_busiestStation 5 = .ok (.istore_n 3, 1) := by decide +kernel
theorem dX7_busiestStation_6 : decode cX7_busiestStation 6 = .ok (.iload_n 3, 1) := by decide +kernel
theorem dX7_busiestStation_7 : decode cX7_busiestStation 7 = .ok (.aload_n 0, 1) := by decide +kernel
theorem dX7_busiestStation_8 : decode cX7_busiestStation 8 = .ok (.getfield 10, 3) := by decide +kernel
theorem dX7_busiestStation_11 : decode cX7_busiestStation 11 = .ok (.getfield 71, 3) := by decide +kernel
theorem dX7_busiestStation_14 : decode cX7_busiestStation 14 = .ok (.if_icmp .ge 30, 3) := by decide +kernel
theorem dX7_busiestStation_17 : decode cX7_busiestStation 17 = .ok (.aload_n 0, 1) := by decide +kernel
theorem dX7_busiestStation_18 : decode cX7_busiestStation 18 = .ok (.getfield 10, 3) := by decide +kernel
theorem dX7_busiestStation_21 : decode cX7_busiestStation 21 = .ok (.iload_n 3, 1) := by decide +kernel
theorem dX7_busiestStation_22 : decode cX7_busiestStation 22 = .ok (.invokevirtual 115, 3) := by decide +kernel
theorem dX7_busiestStation_25 : decode cX7_busiestStation 25 = .ok (.istore 4, 2) := by decide +kernel
theorem dX7_busiestStation_27 : decode cX7_busiestStation 27 = .ok (.iload 4, 2) := by decide +kernel
theorem dX7_busiestStation_29 : decode cX7_busiestStation 29 = .ok (.iload_n 2, 1) := by decide +kernel
theorem dX7_busiestStation_30 : decode cX7_busiestStation 30 = .ok (.if_icmp .le 8, 3) := by decide +kernel
theorem dX7_busiestStation_33 : decode cX7_busiestStation 33 = .ok (.iload_n 3, 1) := by decide +kernel
theorem dX7_busiestStation_34 : decode cX7_busiestStation 34 = .ok (.istore_n 1, 1) := by decide +kernel
theorem dX7_busiestStation_35 : decode cX7_busiestStation 35 = .ok (.iload 4, 2) := by decide +kernel
theorem dX7_busiestStation_37 : decode cX7_busiestStation 37 = .ok (.istore_n 2, 1) := by decide +kernel
theorem dX7_busiestStation_38 : decode cX7_busiestStation 38 = .ok (.iinc 3 1, 3) := by decide +kernel
theorem dX7_busiestStation_41 : decode cX7_busiestStation 41 = .ok (.goto (-35), 3) := by decide +kernel
theorem dX7_busiestStation_44 : decode cX7_busiestStation 44 = .ok (.iload_n 1, 1) := by decide +kernel
theorem dX7_busiestStation_45 : decode cX7_busiestStation 45 = .ok (.ireturn, 1) := by decide +kernel
theorem dX7_loadOf_0 : decode cX7_loadOf 0 = .ok (.aload_n 0, 1) := by decide +kernel
theorem dX7_loadOf_1 : decode cX7_loadOf 1 = .ok (.iload_n 1, 1) := by decide +kernel
theorem dX7_loadOf_2 : decode cX7_loadOf 2 = .ok (.invokevirtual 94, 3) := by decide +kernel
theorem dX7_loadOf_5 : decode cX7_loadOf 5 = .ok (.pop, 1) := by decide +kernel
theorem dX7_loadOf_6 : decode cX7_loadOf 6 = .ok (.iconst 0, 1) := by decide +kernel
theorem dX7_loadOf_7 : decode cX7_loadOf 7 = .ok (.istore_n 2, 1) := by decide +kernel
theorem dX7_loadOf_8 : decode cX7_loadOf 8 = .ok (.iconst 0, 1) := by decide +kernel
theorem dX7_loadOf_9 : decode cX7_loadOf 9 = .ok (.istore_n 3, 1) := by decide +kernel
theorem dX7_loadOf_10 : decode cX7_loadOf 10 = .ok (.iload_n 3, 1) := by decide +kernel
theorem dX7_loadOf_11 : decode cX7_loadOf 11 = .ok (.aload_n 0, 1) := by decide +kernel
theorem dX7_loadOf_12 : decode cX7_loadOf 12 = .ok (.getfield 10, 3) := by decide +kernel
theorem dX7_loadOf_15 : decode cX7_loadOf 15 = .ok (.getfield 74, 3) := by decide +kernel
theorem dX7_loadOf_18 : decode cX7_loadOf 18 = .ok (.if_icmp .ge 46, 3) := by decide +kernel
theorem dX7_loadOf_21 : decode cX7_loadOf 21 = .ok (.aload_n 0, 1) := by decide +kernel
theorem dX7_loadOf_22 : decode cX7_loadOf 22 = .ok (.getfield 10, 3) := by decide +kernel
theorem dX7_loadOf_25 : decode cX7_loadOf 25 = .ok (.getfield 118, 3) := by decide +kernel
theorem dX7_loadOf_28 : decode cX7_loadOf 28 = .ok (.iload_n 3, 1) := by decide +kernel
theorem dX7_loadOf_29 : decode cX7_loadOf 29 = .ok (.aaload, 1) := by decide +kernel
theorem dX7_loadOf_30 : decode cX7_loadOf 30 = .ok (.astore 4, 2) := by decide +kernel
theorem dX7_loadOf_32 : decode cX7_loadOf 32 = .ok (.aload 4, 2) := by decide +kernel
theorem dX7_loadOf_34 : decode cX7_loadOf 34 = .ok (.getfield 122, 3) := by decide +kernel
theorem dX7_loadOf_37 : decode cX7_loadOf 37 = .ok (.iconst 1, 1) := by decide +kernel
theorem dX7_loadOf_38 : decode cX7_loadOf 38 = .ok (.if_icmp .ne 20, 3) := by decide +kernel
theorem dX7_loadOf_41 : decode cX7_loadOf 41 = .ok (.aload 4, 2) := by decide +kernel
theorem dX7_loadOf_43 : decode cX7_loadOf 43 = .ok (.getfield 127, 3) := by decide +kernel
theorem dX7_loadOf_46 : decode cX7_loadOf 46 = .ok (.iload_n 1, 1) := by decide +kernel
theorem dX7_loadOf_47 : decode cX7_loadOf 47 = .ok (.if_icmp .ne 11, 3) := by decide +kernel
theorem dX7_loadOf_50 : decode cX7_loadOf 50 = .ok (.iload_n 2, 1) := by decide +kernel
theorem dX7_loadOf_51 : decode cX7_loadOf 51 = .ok (.aload 4, 2) := by decide +kernel
theorem dX7_loadOf_53 : decode cX7_loadOf 53 = .ok (.getfield 130, 3) := by decide +kernel
theorem dX7_loadOf_56 : decode cX7_loadOf 56 = .ok (.iadd, 1) := by decide +kernel
theorem dX7_loadOf_57 : decode cX7_loadOf 57 = .ok (.istore_n 2, 1) := by decide +kernel
theorem dX7_loadOf_58 : decode cX7_loadOf 58 = .ok (.iinc 3 1, 3) := by decide +kernel
theorem dX7_loadOf_61 : decode cX7_loadOf 61 = .ok (.goto (-51), 3) := by decide +kernel
theorem dX7_loadOf_64 : decode cX7_loadOf 64 = .ok (.iload_n 2, 1) := by decide +kernel
theorem dX7_loadOf_65 : decode cX7_loadOf 65 = .ok (.ireturn, 1) := by decide +kernel
theorem dX7_errorAfter_0 : decode cX7_errorAfter 0 = .ok (.aload_n 0, 1) := by decide +kernel
theorem dX7_errorAfter_1 : decode cX7_errorAfter 1 = .ok (.iload_n 1, 1) := by decide +kernel
theorem dX7_errorAfter_2 : decode cX7_errorAfter 2 = .ok (.invokevirtual 94, 3) := by decide +kernel
theorem dX7_errorAfter_5 : decode cX7_errorAfter 5 = .ok (.astore_n 3, 1) := by decide +kernel
theorem dX7_errorAfter_6 : decode cX7_errorAfter 6 = .ok (.iload_n 2, 1) := by decide +kernel
theorem dX7_errorAfter_7 : decode cX7_errorAfter 7 = .ok (.iconst 0, 1) := by decide +kernel
theorem dX7_errorAfter_8 : decode cX7_errorAfter 8 = .ok (.sipush 200, 3) := by decide +kernel
theorem dX7_errorAfter_11 : decode cX7_errorAfter 11 = .ok (.invokestatic 86, 3) := by decide +kernel
theorem dX7_errorAfter_14 : decode cX7_errorAfter 14 = .ok (.ifCond .ne 6, 3) := by decide +kernel
theorem dX7_errorAfter_17 : decode cX7_errorAfter 17 = .ok (.ldc 133, 2) := by decide +kernel
theorem dX7_errorAfter_19 : decode cX7_errorAfter 19 = .ok (.ireturn, 1) := by decide +kernel
theorem dX7_errorAfter_20 : decode cX7_errorAfter 20 = .ok (.aload_n 0, 1) := by decide +kernel
theorem dX7_errorAfter_21 : decode cX7_errorAfter 21 = .ok (.getfield 22, 3) := by decide +kernel
theorem dX7_errorAfter_24 : decode cX7_errorAfter 24 = .ok (.aload_n 3, 1) := by decide +kernel
theorem dX7_errorAfter_25 : decode cX7_errorAfter 25 = .ok (.invokevirtual 134, 3) := by decide +kernel
theorem dX7_errorAfter_28 : decode cX7_errorAfter 28 = .ok (.aload_n 0, 1) := by decide +kernel
theorem dX7_errorAfter_29 : decode cX7_errorAfter 29 = .ok (.getfield 10, 3) := by decide +kernel
theorem dX7_errorAfter_32 : decode cX7_errorAfter 32 = .ok (.getfield 83, 3) := by decide +kernel
theorem dX7_errorAfter_35 : decode cX7_errorAfter 35 = .ok (.iload_n 2, 1) := by decide +kernel
theorem dX7_errorAfter_36 : decode cX7_errorAfter 36 = .ok (.iadd, 1) := by decide +kernel
theorem dX7_errorAfter_37 : decode cX7_errorAfter 37 = .ok (.istore 4, 2) := by decide +kernel
theorem dX7_errorAfter_39 : decode cX7_errorAfter 39 = .ok (.aload_n 0, 1) := by decide +kernel
theorem dX7_errorAfter_40 : decode cX7_errorAfter 40 = .ok (.getfield 10, 3) := by decide +kernel
theorem dX7_errorAfter_43 : decode cX7_errorAfter 43 = .ok (.getfield 83, 3) := by decide +kernel
theorem dX7_errorAfter_46 : decode cX7_errorAfter 46 = .ok (.iconst 1, 1) := by decide +kernel
theorem dX7_errorAfter_47 : decode cX7_errorAfter 47 = .ok (.iadd, 1) := by decide +kernel
theorem dX7_errorAfter_48 : decode cX7_errorAfter 48 = .ok (.istore 5, 2) := by decide +kernel
theorem dX7_errorAfter_50 : decode cX7_errorAfter 50 = .ok (.iload 5, 2) := by decide +kernel
theorem dX7_errorAfter_52 : decode cX7_errorAfter 52 = .ok (.iload 4, 2) := by decide +kernel
theorem dX7_errorAfter_54 : decode cX7_errorAfter 54 = .ok (.if_icmp .gt 39, 3) := by decide +kernel
theorem dX7_errorAfter_57 : decode cX7_errorAfter 57 = .ok (.aload_n 0, 1) := by decide +kernel
theorem dX7_errorAfter_58 : decode cX7_errorAfter 58 = .ok (.getfield 22, 3) := by decide +kernel
theorem dX7_errorAfter_61 : decode cX7_errorAfter 61 = .ok (.iload 5, 2) := by decide +kernel
theorem dX7_errorAfter_63 : decode cX7_errorAfter 63 = .ok (.aload_n 0, 1) := by decide +kernel
theorem dX7_errorAfter_64 : decode cX7_errorAfter 64 = .ok (.getfield 10, 3) := by decide +kernel
theorem dX7_errorAfter_67 : decode cX7_errorAfter 67 = .ok (.aload_n 0, 1) := by decide +kernel
theorem dX7_errorAfter_68 : decode cX7_errorAfter 68 = .ok (.getfield 22, 3) := by decide +kernel
theorem dX7_errorAfter_71 : decode cX7_errorAfter 71 = .ok (.invokevirtual 108, 3) := by decide +kernel
theorem dX7_errorAfter_74 : decode cX7_errorAfter 74 = .ok (.aload_n 0, 1) := by decide +kernel
theorem dX7_errorAfter_75 : decode cX7_errorAfter 75 = .ok (.getfield 10, 3) := by decide +kernel
theorem dX7_errorAfter_78 : decode cX7_errorAfter 78 = .ok (.getfield 90, 3) := by decide +kernel
theorem dX7_errorAfter_81 : decode cX7_errorAfter 81 = .ok (.bipush 6, 2) := by decide +kernel
theorem dX7_errorAfter_83 : decode cX7_errorAfter 83 = .ok (.iaload, 1) := by decide +kernel
theorem dX7_errorAfter_84 : decode cX7_errorAfter 84 = .ok (.invokevirtual 137, 3) := by decide +kernel
theorem dX7_errorAfter_87 : decode cX7_errorAfter 87 = .ok (.iinc 5 1, 3) := by decide +kernel
theorem dX7_errorAfter_90 : decode cX7_errorAfter 90 = .ok (.goto (-40), 3) := by decide +kernel
theorem dX7_errorAfter_93 : decode cX7_errorAfter 93 = .ok (.aload_n 0, 1) := by decide +kernel
theorem dX7_errorAfter_94 : decode cX7_errorAfter 94 = .ok (.getfield 22, 3) := by decide +kernel
theorem dX7_errorAfter_97 : decode cX7_errorAfter 97 = .ok (.iload 4, 2) := by decide +kernel
theorem dX7_errorAfter_99 : decode cX7_errorAfter 99 = .ok (.invokevirtual 105, 3) := by decide +kernel
theorem dX7_errorAfter_102 : decode cX7_errorAfter 102 = .ok (.ireturn, 1) := by decide +kernel
theorem dX7_powerAfter_0 : decode cX7_powerAfter 0 = .ok (.aload_n 0, 1) := by decide +kernel
theorem dX7_powerAfter_1 : decode cX7_powerAfter 1 = .ok (.iload_n 1, 1) := by decide +kernel
theorem dX7_powerAfter_2 : decode cX7_powerAfter 2 = .ok (.invokevirtual 94, 3) := by decide +kernel
theorem dX7_powerAfter_5 : decode cX7_powerAfter 5 = .ok (.getfield 102, 3) := by decide +kernel
theorem dX7_powerAfter_8 : decode cX7_powerAfter 8 = .ok (.istore_n 3, 1) := by decide +kernel
theorem dX7_powerAfter_9 : decode cX7_powerAfter 9 = .ok (.iload_n 2, 1) := by decide +kernel
theorem dX7_powerAfter_10 : decode cX7_powerAfter 10 = .ok (.iconst 0, 1) := by decide +kernel
theorem dX7_powerAfter_11 : decode cX7_powerAfter 11 = .ok (.sipush 200, 3) := by decide +kernel
theorem dX7_powerAfter_14 : decode cX7_powerAfter 14 = .ok (.invokestatic 86, 3) := by decide +kernel
theorem dX7_powerAfter_17 : decode cX7_powerAfter 17 = .ok (.ifCond .ne 6, 3) := by decide +kernel
theorem dX7_powerAfter_20 : decode cX7_powerAfter 20 = .ok (.bipush (-2), 2) := by decide +kernel
theorem dX7_powerAfter_22 : decode cX7_powerAfter 22 = .ok (.ireturn, 1) := by decide +kernel
theorem dX7_powerAfter_23 : decode cX7_powerAfter 23 = .ok (.aload_n 0, 1) := by decide +kernel
theorem dX7_powerAfter_24 : decode cX7_powerAfter 24 = .ok (.getfield 10, 3) := by decide +kernel
theorem dX7_powerAfter_27 : decode cX7_powerAfter 27 = .ok (.getfield 83, 3) := by decide +kernel
theorem dX7_powerAfter_30 : decode cX7_powerAfter 30 = .ok (.iload_n 2, 1) := by decide +kernel
theorem dX7_powerAfter_31 : decode cX7_powerAfter 31 = .ok (.iadd, 1) := by decide +kernel
theorem dX7_powerAfter_32 : decode cX7_powerAfter 32 = .ok (.istore 4, 2) := by decide +kernel
theorem dX7_powerAfter_34 : decode cX7_powerAfter 34 = .ok (.iload 4, 2) := by decide +kernel
theorem dX7_powerAfter_36 : decode cX7_powerAfter 36 = .ok (.sipush 9999, 3) := by decide +kernel
theorem dX7_powerAfter_39 : decode cX7_powerAfter 39 = .ok (.if_icmp .le 5, 3) := by decide +kernel
theorem dX7_powerAfter_42 : decode cX7_powerAfter 42 = .ok (.iconst (-1), 1) := by decide +kernel
theorem dX7_powerAfter_43 : decode cX7_powerAfter 43 = .ok (.ireturn, 1) := by decide +kernel
theorem dX7_powerAfter_44 : decode cX7_powerAfter 44 = .ok (.aload_n 0, 1) := by decide +kernel
theorem dX7_powerAfter_45 : decode cX7_powerAfter 45 = .ok (.getfield 10, 3) := by decide +kernel
theorem dX7_powerAfter_48 : decode cX7_powerAfter 48 = .ok (.getfield 83, 3) := by decide +kernel
theorem dX7_powerAfter_51 : decode cX7_powerAfter 51 = .ok (.iconst 1, 1) := by decide +kernel
theorem dX7_powerAfter_52 : decode cX7_powerAfter 52 = .ok (.iadd, 1) := by decide +kernel
theorem dX7_powerAfter_53 : decode cX7_powerAfter 53 = .ok (.istore 5, 2) := by decide +kernel
theorem dX7_powerAfter_55 : decode cX7_powerAfter 55 = .ok (.iload 5, 2) := by decide +kernel
theorem dX7_powerAfter_57 : decode cX7_powerAfter 57 = .ok (.iload 4, 2) := by decide +kernel
theorem dX7_powerAfter_59 : decode cX7_powerAfter 59 = .ok (.if_icmp .gt 21, 3) := by decide +kernel
theorem dX7_powerAfter_62 : decode cX7_powerAfter 62 = .ok (.aload_n 0, 1) := by decide +kernel
theorem dX7_powerAfter_63 : decode cX7_powerAfter 63 = .ok (.getfield 10, 3) := by decide +kernel
theorem dX7_powerAfter_66 : decode cX7_powerAfter 66 = .ok (.iload_n 1, 1) := by decide +kernel
theorem dX7_powerAfter_67 : decode cX7_powerAfter 67 = .ok (.iload_n 3, 1) := by decide +kernel
theorem dX7_powerAfter_68 : decode cX7_powerAfter 68 = .ok (.iload 5, 2) := by decide +kernel
theorem dX7_powerAfter_70 : decode cX7_powerAfter 70 = .ok (.invokevirtual 141, 3) := by decide +kernel
theorem dX7_powerAfter_73 : decode cX7_powerAfter 73 = .ok (.istore_n 3, 1) := by decide +kernel
theorem dX7_powerAfter_74 : decode cX7_powerAfter 74 = .ok (.iinc 5 1, 3) := by decide +kernel
theorem dX7_powerAfter_77 : decode cX7_powerAfter 77 = .ok (.goto (-22), 3) := by decide +kernel
theorem dX7_powerAfter_80 : decode cX7_powerAfter 80 = .ok (.iload_n 3, 1) := by decide +kernel
theorem dX7_powerAfter_81 : decode cX7_powerAfter 81 = .ok (.ireturn, 1) := by decide +kernel
theorem dX7_framesInTime_0 : decode cX7_framesInTime 0 = .ok (.aload_n 0, 1) := by decide +kernel
theorem dX7_framesInTime_1 : decode cX7_framesInTime 1 = .ok (.getfield 22, 3) := by decide +kernel
theorem dX7_framesInTime_4 : decode cX7_framesInTime 4 = .ok (.aload_n 0, 1) := by decide +kernel
theorem dX7_framesInTime_5 : decode cX7_framesInTime 5 = .ok (.iload_n 1, 1) := by decide +kernel
theorem dX7_framesInTime_6 : decode cX7_framesInTime 6 = .ok (.invokevirtual 94, 3) := by decide +kernel
theorem dX7_framesInTime_9 : decode cX7_framesInTime 9 = .ok (.invokevirtual 134, 3) := by decide +kernel
theorem dX7_framesInTime_12 : decode cX7_framesInTime 12 = .ok (.iconst 0, 1) := by decide +kernel
theorem dX7_framesInTime_13 : decode cX7_framesInTime 13 = .ok (.istore_n 2, 1) := by decide +kernel
theorem dX7_framesInTime_14 : decode cX7_framesInTime 14 = .ok (.iload_n 2, 1) := by decide +kernel
theorem dX7_framesInTime_15 : decode cX7_framesInTime 15 = .ok (.sipush 200, 3) := by decide +kernel
theorem dX7_framesInTime_18 : decode cX7_framesInTime 18 = .ok (.if_icmp .gt 72, 3) := by decide +kernel
theorem dX7_framesInTime_21 : decode cX7_framesInTime 21 = .ok (.aload_n 0, 1) := by decide +kernel
theorem dX7_framesInTime_22 : decode cX7_framesInTime 22 = .ok (.getfield 10, 3) := by decide +kernel
theorem dX7_framesInTime_25 : decode cX7_framesInTime 25 = .ok (.getfield 83, 3) := by decide +kernel
theorem dX7_framesInTime_28 : decode cX7_framesInTime 28 = .ok (.iload_n 2, 1) := by decide +kernel
theorem dX7_framesInTime_29 : decode cX7_framesInTime 29 = .ok (.iadd, 1) := by decide +kernel
theorem dX7_framesInTime_30 : decode cX7_framesInTime 30 = .ok (.istore_n 3, 1) := by decide +kernel
theorem dX7_framesInTime_31 : decode cX7_framesInTime 31 = .ok (.aload_n 0, 1) := by decide +kernel
theorem dX7_framesInTime_32 : decode cX7_framesInTime 32 = .ok (.getfield 22, 3) := by decide +kernel
theorem dX7_framesInTime_35 : decode cX7_framesInTime 35 = .ok (.iload_n 3, 1) := by decide +kernel
theorem dX7_framesInTime_36 : decode cX7_framesInTime 36 = .ok (.aload_n 0, 1) := by decide +kernel
theorem dX7_framesInTime_37 : decode cX7_framesInTime 37 = .ok (.getfield 10, 3) := by decide +kernel
theorem dX7_framesInTime_40 : decode cX7_framesInTime 40 = .ok (.getfield 90, 3) := by decide +kernel
theorem dX7_framesInTime_43 : decode cX7_framesInTime 43 = .ok (.iconst 1, 1) := by decide +kernel
theorem dX7_framesInTime_44 : decode cX7_framesInTime 44 = .ok (.iaload, 1) := by decide +kernel
theorem dX7_framesInTime_45 : decode cX7_framesInTime 45 = .ok (.invokevirtual 145, 3) := by decide +kernel
theorem dX7_framesInTime_48 : decode cX7_framesInTime 48 = .ok (.ifCond .eq 5, 3) := by decide +kernel
theorem dX7_framesInTime_51 : decode cX7_framesInTime 51 = .ok (.iload_n 2, 1) := by decide +kernel
theorem dX7_framesInTime_52 : decode cX7_framesInTime 52 = .ok (.ireturn, 1) := by decide +kernel
theorem dX7_framesInTime_53 : decode cX7_framesInTime 53 = .ok (.aload_n 0, 1) := by decide +kernel
theorem dX7_framesInTime_54 : decode cX7_framesInTime 54 = .ok (.getfield 22, 3) := by decide +kernel
theorem dX7_framesInTime_57 : decode cX7_framesInTime 57 = .ok (.iload_n 3, 1) := by decide +kernel
theorem dX7_framesInTime_58 : decode cX7_framesInTime 58 = .ok (.iconst 1, 1) := by decide +kernel
theorem dX7_framesInTime_59 : decode cX7_framesInTime 59 = .ok (.iadd, 1) := by decide +kernel
theorem dX7_framesInTime_60 : decode cX7_framesInTime 60 = .ok (.aload_n 0, 1) := by decide +kernel
theorem dX7_framesInTime_61 : decode cX7_framesInTime 61 = .ok (.getfield 10, 3) := by decide +kernel
theorem dX7_framesInTime_64 : decode cX7_framesInTime 64 = .ok (.aload_n 0, 1) := by decide +kernel
theorem dX7_framesInTime_65 : decode cX7_framesInTime 65 = .ok (.getfield 22, 3) := by decide +kernel
theorem dX7_framesInTime_68 : decode cX7_framesInTime 68 = .ok (.invokevirtual 108, 3) := by decide +kernel
theorem dX7_framesInTime_71 : decode cX7_framesInTime 71 = .ok (.aload_n 0, 1) := by decide +kernel
theorem dX7_framesInTime_72 : decode cX7_framesInTime 72 = .ok (.getfield 10, 3) := by decide +kernel
theorem dX7_framesInTime_75 : decode cX7_framesInTime 75 = .ok (.getfield 90, 3) := by decide +kernel
theorem dX7_framesInTime_78 : decode cX7_framesInTime 78 = .ok (.bipush 6, 2) := by decide +kernel
theorem dX7_framesInTime_80 : decode cX7_framesInTime 80 = .ok (.iaload, 1) := by decide +kernel
theorem dX7_framesInTime_81 : decode cX7_framesInTime 81 = .ok (.invokevirtual 137, 3) := by decide +kernel
theorem dX7_framesInTime_84 : decode cX7_framesInTime 84 = .ok (.iinc 2 1, 3) := by decide +kernel
theorem dX7_framesInTime_87 : decode cX7_framesInTime 87 = .ok (.goto (-73), 3) := by decide +kernel
theorem dX7_framesInTime_90 : decode cX7_framesInTime 90 = .ok (.iconst (-1), 1) := by decide +kernel
theorem dX7_framesInTime_91 : decode cX7_framesInTime 91 = .ok (.ireturn, 1) := by decide +kernel
theorem dX7_stateOf_0 : decode cX7_stateOf 0 = .ok (.aload_n 0, 1) := by decide +kernel
theorem dX7_stateOf_1 : decode cX7_stateOf 1 = .ok (.iload_n 1, 1) := by decide +kernel
theorem dX7_stateOf_2 : decode cX7_stateOf 2 = .ok (.invokevirtual 149, 3) := by decide +kernel
theorem dX7_stateOf_5 : decode cX7_stateOf 5 = .ok (.getfield 122, 3) := by decide +kernel
theorem dX7_stateOf_8 : decode cX7_stateOf 8 = .ok (.ireturn, 1) := by decide +kernel
theorem dX7_senderOf_0 : decode cX7_senderOf 0 = .ok (.aload_n 0, 1) := by decide +kernel
theorem dX7_senderOf_1 : decode cX7_senderOf 1 = .ok (.iload_n 1, 1) := by decide +kernel
theorem dX7_senderOf_2 : decode cX7_senderOf 2 = .ok (.invokevirtual 149, 3) := by decide +kernel
theorem dX7_senderOf_5 : decode cX7_senderOf 5 = .ok (.getfield 127, 3) := by decide +kernel
theorem dX7_senderOf_8 : decode cX7_senderOf 8 = .ok (.ireturn, 1) := by decide +kernel
theorem dX7_receiverOf_0 : decode cX7_receiverOf 0 = .ok (.aload_n 0, 1) := by decide +kernel
theorem dX7_receiverOf_1 : decode cX7_receiverOf 1 = .ok (.iload_n 1, 1) := by decide +kernel
theorem dX7_receiverOf_2 : decode cX7_receiverOf 2 = .ok (.invokevirtual 149, 3) := by decide +kernel
theorem dX7_receiverOf_5 : decode cX7_receiverOf 5 = .ok (.getfield 153, 3) := by decide +kernel
theorem dX7_receiverOf_8 : decode cX7_receiverOf 8 = .ok (.ireturn, 1) := by decide +kernel
theorem dX7_priorityOf_0 : decode cX7_priorityOf 0 = .ok (.aload_n 0, 1) := by decide +kernel
theorem dX7_priorityOf_1 : decode cX7_priorityOf 1 = .ok (.iload_n 1, 1) := by decide +kernel
theorem dX7_priorityOf_2 : decode cX7_priorityOf 2 = .ok (.invokevirtual 149, 3) := by decide +kernel
theorem dX7_priorityOf_5 : decode cX7_priorityOf 5 = .ok (.getfield 156, 3) := by decide +kernel
theorem dX7_priorityOf_8 : decode cX7_priorityOf 8 = .ok (.ireturn, 1) := by decide +kernel
theorem dX7_carrierOf_0 : decode cX7_carrierOf 0 = .ok (.aload_n 0, 1) := by decide +kernel
theorem dX7_carrierOf_1 : decode cX7_carrierOf 1 = .ok (.iload_n 1, 1) := by decide +kernel
theorem dX7_carrierOf_2 : decode cX7_carrierOf 2 = .ok (.invokevirtual 149, 3) := by decide +kernel
theorem dX7_carrierOf_5 : decode cX7_carrierOf 5 = .ok (.astore_n 2, 1) := by decide +kernel
theorem dX7_carrierOf_6 : decode cX7_carrierOf 6 = .ok (.aload_n 2, 1) := by decide +kernel
theorem dX7_carrierOf_7 : decode cX7_carrierOf 7 = .ok (.getfield 122, 3) := by decide +kernel
theorem dX7_carrierOf_10 : decode cX7_carrierOf 10 = .ok (.iconst 1, 1) := by decide +kernel
theorem dX7_carrierOf_11 : decode cX7_carrierOf 11 = .ok (.if_icmp .ne 10, 3) := by decide +kernel
theorem dX7_carrierOf_14 : decode cX7_carrierOf 14 = .ok (.aload_n 2, 1) := by decide +kernel
theorem dX7_carrierOf_15 : decode cX7_carrierOf 15 = .ok (.getfield 159, 3) := by decide +kernel
theorem dX7_carrierOf_18 : decode cX7_carrierOf 18 = .ok (.goto 4, 3) := by decide +kernel
theorem dX7_carrierOf_21 : decode cX7_carrierOf 21 = .ok (.iconst (-1), 1) := by decide +kernel
theorem dX7_carrierOf_22 : decode cX7_carrierOf 22 = .ok (.ireturn, 1) := by decide +kernel
theorem dX7_startOf_0 : decode cX7_startOf 0 = .ok (.aload_n 0, 1) := by decide +kernel
theorem dX7_startOf_1 : decode cX7_startOf 1 = .ok (.iload_n 1, 1) := by decide +kernel
theorem dX7_startOf_2 : decode cX7_startOf 2 = .ok (.invokevirtual 149, 3) := by decide +kernel
theorem dX7_startOf_5 : decode cX7_startOf 5 = .ok (.astore_n 2, 1) := by decide +kernel
theorem dX7_startOf_6 : decode cX7_startOf 6 = .ok (.aload_n 2, 1) := by decide +kernel
theorem dX7_startOf_7 : decode cX7_startOf 7 = .ok (.getfield 122, 3) := by decide +kernel
theorem dX7_startOf_10 : decode cX7_startOf 10 = .ok (.iconst 1, 1) := by decide +kernel
theorem dX7_startOf_11 : decode cX7_startOf 11 = .ok (.if_icmp .ne 10, 3) := by decide +kernel
theorem dX7_startOf_14 : decode cX7_startOf 14 = .ok (.aload_n 2, 1) := by decide +kernel
theorem dX7_startOf_15 : decode cX7_startOf 15 = .ok (.getfield 162, 3) := by decide +kernel
theorem dX7_startOf_18 : decode cX7_startOf 18 = .ok (.goto 4, 3) := by decide +kernel
theorem dX7_startOf_21 : decode cX7_startOf 21 = .ok (.iconst (-1), 1) := by decide +kernel
theorem dX7_startOf_22 : decode cX7_startOf 22 = .ok (.ireturn, 1) := by decide +kernel
theorem dX7_burstOf_0 : decode cX7_burstOf 0 = .ok (.aload_n 0, 1) := by decide +kernel
theorem dX7_burstOf_1 : decode cX7_burstOf 1 = .ok (.iload_n 1, 1) := by decide +kernel
theorem dX7_burstOf_2 : decode cX7_burstOf 2 = .ok (.invokevirtual 149, 3) := by decide +kernel
theorem dX7_burstOf_5 : decode cX7_burstOf 5 = .ok (.getfield 130, 3) := by decide +kernel
theorem dX7_burstOf_8 : decode cX7_burstOf 8 = .ok (.ireturn, 1) := by decide +kernel
theorem dX7_sendOffset_0 : decode cX7_sendOffset 0 = .ok (.aload_n 0, 1) := by decide +kernel
theorem dX7_sendOffset_1 : decode cX7_sendOffset 1 = .ok (.iload_n 1, 1) := by decide +kernel
theorem dX7_sendOffset_2 : decode cX7_sendOffset 2 = .ok (.invokevirtual 149, 3) := by decide +kernel
theorem dX7_sendOffset_5 : decode cX7_sendOffset 5 = .ok (.astore_n 2, 1) := by decide +kernel
theorem dX7_sendOffset_6 : decode cX7_sendOffset 6 = .ok (.aload_n 0, 1) := by decide +kernel
theorem dX7_sendOffset_7 : decode cX7_sendOffset 7 = .ok (.getfield 10, 3) := by decide +kernel
theorem dX7_sendOffset_10 : decode cX7_sendOffset 10 = .ok (.getfield 90, 3) := by decide +kernel
theorem dX7_sendOffset_13 : decode cX7_sendOffset 13 = .ok (.iconst 0, 1) := by decide +kernel
theorem dX7_sendOffset_14 : decode cX7_sendOffset 14 = .ok (.iaload, 1) := by decide +kernel
theorem dX7_sendOffset_15 : decode cX7_sendOffset 15 = .ok (.istore_n 3, 1) := by decide +kernel
theorem dX7_sendOffset_16 : decode cX7_sendOffset 16 = .ok (.aload_n 2, 1) := by decide +kernel
theorem dX7_sendOffset_17 : decode cX7_sendOffset 17 = .ok (.getfield 122, 3) := by decide +kernel
theorem dX7_sendOffset_20 : decode cX7_sendOffset 20 = .ok (.iconst 1, 1) := by decide +kernel
theorem dX7_sendOffset_21 : decode cX7_sendOffset 21 = .ok (.if_icmp .ne 7, 3) := by decide +kernel
theorem dX7_sendOffset_24 : decode cX7_sendOffset 24 = .ok (.iload_n 3, 1) := by decide +kernel
theorem dX7_sendOffset_25 : decode cX7_sendOffset 25 = .ok (.ifCond .gt 5, 3) := by decide +kernel
theorem dX7_sendOffset_28 : decode cX7_sendOffset 28 = .ok (.iconst (-1), 1) := by decide +kernel
theorem dX7_sendOffset_29 : decode cX7_sendOffset 29 = .ok (.ireturn, 1) := by decide +kernel
theorem dX7_sendOffset_30 : decode cX7_sendOffset 30 = .ok (.aload_n 2, 1) := by decide +kernel
theorem dX7_sendOffset_31 : decode cX7_sendOffset 31 = .ok (.getfield 162, 3) := by decide +kernel
theorem dX7_sendOffset_34 : decode cX7_sendOffset 34 = .ok (.aload_n 0, 1) := by decide +kernel
theorem dX7_sendOffset_35 : decode cX7_sendOffset 35 = .ok (.getfield 10, 3) := by decide +kernel
theorem dX7_sendOffset_38 : decode cX7_sendOffset 38 = .ok (.getfield 165, 3) := by decide +kernel
theorem dX7_sendOffset_41 : decode cX7_sendOffset 41 = .ok (.aload_n 2, 1) := by decide +kernel
theorem dX7_sendOffset_42 : decode cX7_sendOffset 42 = .ok (.getfield 127, 3) := by decide +kernel
theorem dX7_sendOffset_45 : decode cX7_sendOffset 45 = .ok (.aaload, 1) := by decide +kernel
theorem dX7_sendOffset_46 : decode cX7_sendOffset 46 = .ok (.getfield 169, 3) := by decide +kernel
theorem dX7_sendOffset_49 : decode cX7_sendOffset 49 = .ok (.isub, 1) := by decide +kernel
theorem dX7_sendOffset_50 : decode cX7_sendOffset 50 = .ok (.iload_n 3, 1) := by decide +kernel
theorem dX7_sendOffset_51 : decode cX7_sendOffset 51 = .ok (.invokestatic 172, 3) := by decide +kernel
theorem dX7_sendOffset_54 : decode cX7_sendOffset 54 = .ok (.ireturn, 1) := by decide +kernel
theorem dX7_endOf_0 : decode cX7_endOf 0 = .ok (.aload_n 0, 1) := by decide +kernel
theorem dX7_endOf_1 : decode cX7_endOf 1 = .ok (.iload_n 1, 1) := by decide +kernel
theorem dX7_endOf_2 : decode cX7_endOf 2 = .ok (.invokevirtual 149, 3) := by decide +kernel
theorem dX7_endOf_5 : decode cX7_endOf 5 = .ok (.astore_n 2, 1) := by decide +kernel
theorem dX7_endOf_6 : decode cX7_endOf 6 = .ok (.aload_n 2, 1) := by decide +kernel
theorem dX7_endOf_7 : decode cX7_endOf 7 = .ok (.getfield 122, 3) := by decide +kernel
theorem dX7_endOf_10 : decode cX7_endOf 10 = .ok (.iconst 1, 1) := by decide +kernel
theorem dX7_endOf_11 : decode cX7_endOf 11 = .ok (.if_icmp .ne 10, 3) := by decide +kernel
theorem dX7_endOf_14 : decode cX7_endOf 14 = .ok (.aload_n 2, 1) := by decide +kernel
theorem dX7_endOf_15 : decode cX7_endOf 15 = .ok (.invokevirtual 177, 3) := by decide +kernel
theorem dX7_endOf_18 : decode cX7_endOf 18 = .ok (.goto 4, 3) := by decide +kernel
theorem dX7_endOf_21 : decode cX7_endOf 21 = .ok (.iconst (-1), 1) := by decide +kernel
theorem dX7_endOf_22 : decode cX7_endOf 22 = .ok (.ireturn, 1) := by decide +kernel
theorem dX7_waitOf_0 : decode cX7_waitOf 0 = .ok (.aload_n 0, 1) := by decide +kernel
theorem dX7_waitOf_1 : decode cX7_waitOf 1 = .ok (.iload_n 1, 1) := by decide +kernel
theorem dX7_waitOf_2 : decode cX7_waitOf 2 = .ok (.invokevirtual 149, 3) := by decide +kernel
theorem dX7_waitOf_5 : decode cX7_waitOf 5 = .ok (.astore_n 2, 1) := by decide +kernel
theorem dX7_waitOf_6 : decode cX7_waitOf 6 = .ok (.aload_n 2, 1) := by decide +kernel
theorem dX7_waitOf_7 : decode cX7_waitOf 7 = .ok (.getfield 122, 3) := by decide +kernel
theorem dX7_waitOf_10 : decode cX7_waitOf 10 = .ok (.ifCond .ne 16, 3) := by decide +kernel
theorem dX7_waitOf_13 : decode cX7_waitOf 13 = .ok (.aload_n 0, 1) := by decide +kernel
theorem dX7_waitOf_14 : decode cX7_waitOf 14 = .ok (.getfield 10, 3) := by decide +kernel
theorem dX7_waitOf_17 : decode cX7_waitOf 17 = .ok (.getfield 83, 3) := by decide +kernel
theorem dX7_waitOf_20 : decode cX7_waitOf 20 = .ok (.aload_n 2, 1) := by decide +kernel
theorem dX7_waitOf_21 : decode cX7_waitOf 21 = .ok (.getfield 181, 3) := by decide +kernel
theorem dX7_waitOf_24 : decode cX7_waitOf 24 = .ok (.isub, 1) := by decide +kernel
theorem dX7_waitOf_25 : decode cX7_waitOf 25 = .ok (.ireturn, 1) := by decide +kernel
theorem dX7_waitOf_26 : decode cX7_waitOf 26 = .ok (.aload_n 2, 1) := by decide +kernel
theorem dX7_waitOf_27 : decode cX7_waitOf 27 = .ok (.getfield 184, 3) := by decide +kernel
theorem dX7_waitOf_30 : decode cX7_waitOf 30 = .ok (.iconst (-1), 1) := by decide +kernel
theorem dX7_waitOf_31 : decode cX7_waitOf 31 = .ok (.if_icmp .ne 7, 3) := by decide +kernel
theorem dX7_waitOf_34 : decode cX7_waitOf 34 = .ok (.iconst (-1), 1) := by decide +kernel
theorem dX7_waitOf_35 : decode cX7_waitOf 35 = .ok (.goto 12, 3) := by decide +kernel
theorem dX7_waitOf_38 : decode cX7_waitOf 38 = .ok (.aload_n 2, 1) := by decide +kernel
theorem dX7_waitOf_39 : decode cX7_waitOf 39 = .ok (.getfield 184, 3) := by decide +kernel
theorem dX7_waitOf_42 : decode cX7_waitOf 42 = .ok (.aload_n 2, 1) := by decide +kernel
theorem dX7_waitOf_43 : decode cX7_waitOf 43 = .ok (.getfield 181, 3) := by decide +kernel
theorem dX7_waitOf_46 : decode cX7_waitOf 46 = .ok (.isub, 1) := by decide +kernel
theorem dX7_waitOf_47 : decode cX7_waitOf 47 = .ok (.ireturn, 1) := by decide +kernel
theorem dX7_marginOf_0 : decode cX7_marginOf 0 = .ok (.aload_n 0, 1) := by decide +kernel
theorem dX7_marginOf_1 : decode cX7_marginOf 1 = .ok (.getfield 10, 3) := by decide +kernel
theorem dX7_marginOf_4 : decode cX7_marginOf 4 = .ok (.aload_n 0, 1) := by decide +kernel
theorem dX7_marginOf_5 : decode cX7_marginOf 5 = .ok (.iload_n 1, 1) := by decide +kernel
theorem dX7_marginOf_6 : decode cX7_marginOf 6 = .ok (.invokevirtual 149, 3) := by decide +kernel
theorem dX7_marginOf_9 : decode cX7_marginOf 9 = .ok (.invokevirtual 187, 3) := by decide +kernel
theorem dX7_marginOf_12 : decode cX7_marginOf 12 = .ok (.ireturn, 1) := by decide +kernel
theorem dX7_degradedFrames_0 : decode cX7_degradedFrames 0 = .ok (.aload_n 0, 1) := by decide +kernel
theorem dX7_degradedFrames_1 : decode cX7_degradedFrames 1 = .ok (.iload_n 1, 1) := by decide +kernel
theorem dX7_degradedFrames_2 : decode cX7_degradedFrames 2 = .ok (.invokevirtual 149, 3) := by decide +kernel
theorem dX7_degradedFrames_5 : decode cX7_degradedFrames 5 = .ok (.getfield 191, 3) := by decide +kernel
theorem dX7_degradedFrames_8 : decode cX7_degradedFrames 8 = .ok (.ireturn, 1) := by decide +kernel
theorem dX7_degradedNow_0 : decode cX7_degradedNow 0 = .ok (.aload_n 0, 1) := by decide +kernel
theorem dX7_degradedNow_1 : decode cX7_degradedNow 1 = .ok (.getfield 10, 3) := by decide +kernel
theorem dX7_degradedNow_4 : decode cX7_degradedNow 4 = .ok (.aload_n 0, 1) := by decide +kernel
theorem dX7_degradedNow_5 : decode cX7_degradedNow 5 = .ok (.getfield 10, 3) := by decide +kernel
theorem dX7_degradedNow_8 : decode cX7_degradedNow 8 = .ok (.iconst 1, 1) := by decide +kernel
theorem dX7_degradedNow_9 : decode cX7_degradedNow 9 = .ok (.invokevirtual 194, 3) := by decide +kernel
theorem dX7_degradedNow_12 : decode cX7_degradedNow 12 = .ok (.invokevirtual 197, 3) := by decide +kernel
theorem dX7_degradedNow_15 : decode cX7_degradedNow 15 = .ok (.ireturn, 1) := by decide +kernel
theorem dX7_conflicts_0 : decode cX7_conflicts 0 = .ok (.aload_n 0, 1) := by decide +kernel
theorem dX7_conflicts_1 : decode cX7_conflicts 1 = .ok (.iload_n 1, 1) := by decide +kernel
theorem dX7_conflicts_2 : decode cX7_conflicts 2 = .ok (.invokevirtual 149, 3) := by decide +kernel
theorem dX7_conflicts_5 : decode cX7_conflicts 5 = .ok (.astore_n 2, 1) := by decide +kernel
theorem dX7_conflicts_6 : decode cX7_conflicts 6 = .ok (.aload_n 2, 1) := by decide +kernel
theorem dX7_conflicts_7 : decode cX7_conflicts 7 = .ok (.getfield 122, 3) := by decide +kernel
theorem dX7_conflicts_10 : decode cX7_conflicts 10 = .ok (.iconst 1, 1) := by decide +kernel
theorem dX7_conflicts_11 : decode cX7_conflicts 11 = .ok (.if_icmp .eq 5, 3) := by decide +kernel
theorem dX7_conflicts_14 : decode cX7_conflicts 14 = .ok (.iconst 0, 1) := by decide +kernel
theorem dX7_conflicts_15 : decode cX7_conflicts 15 = .ok (.ireturn, 1) := by decide +kernel
theorem dX7_conflicts_16 : decode cX7_conflicts 16 = .ok (.iconst 0, 1) := by decide +kernel
theorem dX7_conflicts_17 : decode cX7_conflicts 17 = .ok (.istore_n 3, 1) := by decide +kernel
theorem dX7_conflicts_18 : decode cX7_conflicts 18 = .ok (.iconst 0, 1) := by decide +kernel
theorem dX7_conflicts_19 : decode cX7_conflicts 19 = .ok (.istore 4, 2) := by decide +kernel
theorem dX7_conflicts_21 : decode cX7_conflicts 21 = .ok (.iload 4, 2) := by decide +kernel
theorem dX7_conflicts_23 : decode cX7_conflicts 23 = .ok (.aload_n 0, 1) := by decide +kernel
theorem dX7_conflicts_24 : decode cX7_conflicts 24 = .ok (.getfield 10, 3) := by decide +kernel
theorem dX7_conflicts_27 : decode cX7_conflicts 27 = .ok (.getfield 74, 3) := by decide +kernel
theorem dX7_conflicts_30 : decode cX7_conflicts 30 = .ok (.if_icmp .ge 56, 3) := by decide +kernel
theorem dX7_conflicts_33 : decode cX7_conflicts 33 = .ok (.aload_n 0, 1) := by decide +kernel
theorem dX7_conflicts_34 : decode cX7_conflicts 34 = .ok (.getfield 10, 3) := by decide +kernel
theorem dX7_conflicts_37 : decode cX7_conflicts 37 = .ok (.getfield 118, 3) := by decide +kernel
theorem dX7_conflicts_40 : decode cX7_conflicts 40 = .ok (.iload 4, 2) := by decide +kernel
theorem dX7_conflicts_42 : decode cX7_conflicts 42 = .ok (.aaload, 1) := by decide +kernel
theorem dX7_conflicts_43 : decode cX7_conflicts 43 = .ok (.astore 5, 2) := by decide +kernel
theorem dX7_conflicts_45 : decode cX7_conflicts 45 = .ok (.iload 4, 2) := by decide +kernel
theorem dX7_conflicts_47 : decode cX7_conflicts 47 = .ok (.iload_n 1, 1) := by decide +kernel
theorem dX7_conflicts_48 : decode cX7_conflicts 48 = .ok (.if_icmp .eq 32, 3) := by decide +kernel
theorem dX7_conflicts_51 : decode cX7_conflicts 51 = .ok (.aload 5, 2) := by decide +kernel
theorem dX7_conflicts_53 : decode cX7_conflicts 53 = .ok (.getfield 122, 3) := by decide +kernel
theorem dX7_conflicts_56 : decode cX7_conflicts 56 = .ok (.iconst 1, 1) := by decide +kernel
theorem dX7_conflicts_57 : decode cX7_conflicts 57 = .ok (.if_icmp .ne 23, 3) := by decide +kernel
theorem dX7_conflicts_60 : decode cX7_conflicts 60 = .ok (.aload 5, 2) := by decide +kernel
theorem dX7_conflicts_62 : decode cX7_conflicts 62 = .ok (.aload_n 2, 1) := by decide +kernel
theorem dX7_conflicts_63 : decode cX7_conflicts 63 = .ok (.aload_n 2, 1) := by decide +kernel
theorem dX7_conflicts_64 : decode cX7_conflicts 64 = .ok (.getfield 159, 3) := by decide +kernel
theorem dX7_conflicts_67 : decode cX7_conflicts 67 = .ok (.invokevirtual 200, 3) := by decide +kernel
theorem dX7_conflicts_70 : decode cX7_conflicts 70 = .ok (.ifCond .eq 10, 3) := by decide +kernel
theorem dX7_conflicts_73 : decode cX7_conflicts 73 = .ok (.iload_n 3, 1) := by decide +kernel
theorem dX7_conflicts_74 : decode cX7_conflicts 74 = .ok (.iconst 1, 1) := by decide +kernel
theorem dX7_conflicts_75 : decode cX7_conflicts 75 = .ok (.iload 4, 2) := by decide +kernel
theorem dX7_conflicts_77 : decode cX7_conflicts 77 = .ok (.ishl, 1) := by decide +kernel
theorem dX7_conflicts_78 : decode cX7_conflicts 78 = .ok (.ior, 1) := by decide +kernel
theorem dX7_conflicts_79 : decode cX7_conflicts 79 = .ok (.istore_n 3, 1) := by decide +kernel
theorem dX7_conflicts_80 : decode cX7_conflicts 80 = .ok (.iinc 4 1, 3) := by decide +kernel
theorem dX7_conflicts_83 : decode cX7_conflicts 83 = .ok (.goto (-62), 3) := by decide +kernel
theorem dX7_conflicts_86 : decode cX7_conflicts 86 = .ok (.iload_n 3, 1) := by decide +kernel
theorem dX7_conflicts_87 : decode cX7_conflicts 87 = .ok (.ireturn, 1) := by decide +kernel
theorem dX7_clearFrame_0 : decode cX7_clearFrame 0 = .ok (.aload_n 0, 1) := by decide +kernel
theorem dX7_clearFrame_1 : decode cX7_clearFrame 1 = .ok (.iload_n 1, 1) := by decide +kernel
theorem dX7_clearFrame_2 : decode cX7_clearFrame 2 = .ok (.invokevirtual 149, 3) := by decide +kernel
theorem dX7_clearFrame_5 : decode cX7_clearFrame 5 = .ok (.astore_n 2, 1) := by decide +kernel
theorem dX7_clearFrame_6 : decode cX7_clearFrame 6 = .ok (.aload_n 0, 1) := by decide +kernel
theorem dX7_clearFrame_7 : decode cX7_clearFrame 7 = .ok (.getfield 10, 3) := by decide +kernel
theorem dX7_clearFrame_10 : decode cX7_clearFrame 10 = .ok (.getfield 83, 3) := by decide +kernel
theorem dX7_clearFrame_13 : decode cX7_clearFrame 13 = .ok (.sipush 200, 3) := by decide +kernel
theorem dX7_clearFrame_16 : decode cX7_clearFrame 16 = .ok (.iadd, 1) := by decide +kernel
theorem dX7_clearFrame_17 : decode cX7_clearFrame 17 = .ok (.sipush 9999, 3) := by decide +kernel
theorem dX7_clearFrame_20 : decode cX7_clearFrame 20 = .ok (.invokestatic 204, 3) := by decide +kernel
theorem dX7_clearFrame_23 : decode cX7_clearFrame 23 = .ok (.istore_n 3, 1) := by decide +kernel
theorem dX7_clearFrame_24 : decode cX7_clearFrame 24 = .ok (.aload_n 0, 1) := by decide +kernel
theorem dX7_clearFrame_25 : decode cX7_clearFrame 25 = .ok (.getfield 10, 3) := by decide +kernel
theorem dX7_clearFrame_28 : decode cX7_clearFrame 28 = .ok (.getfield 165, 3) := by decide +kernel
theorem dX7_clearFrame_31 : decode cX7_clearFrame 31 = .ok (.aload_n 2, 1) := by decide +kernel
theorem dX7_clearFrame_32 : decode cX7_clearFrame 32 = .ok (.getfield 127, 3) := by decide +kernel
theorem dX7_clearFrame_35 : decode cX7_clearFrame 35 = .ok (.aaload, 1) := by decide +kernel
theorem dX7_clearFrame_36 : decode cX7_clearFrame 36 = .ok (.getfield 102, 3) := by decide +kernel
theorem dX7_clearFrame_39 : decode cX7_clearFrame 39 = .ok (.istore 4, 2) := by decide +kernel
theorem dX7_clearFrame_41 : decode cX7_clearFrame 41 = .ok (.aload_n 0, 1) := by decide +kernel
theorem dX7_clearFrame_42 : decode cX7_clearFrame 42 = .ok (.getfield 10, 3) := by decide +kernel
theorem dX7_clearFrame_45 : decode cX7_clearFrame 45 = .ok (.getfield 83, 3) := by decide +kernel
theorem dX7_clearFrame_48 : decode cX7_clearFrame 48 = .ok (.istore 5, 2) := by decide +kernel
theorem dX7_clearFrame_50 : decode cX7_clearFrame 50 = .ok (.iload 5, 2) := by decide +kernel
theorem dX7_clearFrame_52 : decode cX7_clearFrame 52 = .ok (.iload_n 3, 1) := by decide +kernel
theorem dX7_clearFrame_53 : decode cX7_clearFrame 53 = .ok (.if_icmp .gt 56, 3) := by decide +kernel
theorem dX7_clearFrame_56 : decode cX7_clearFrame 56 = .ok (.iload 5, 2) := by decide +kernel
theorem dX7_clearFrame_58 : decode cX7_clearFrame 58 = .ok (.aload_n 0, 1) := by decide +kernel
theorem dX7_clearFrame_59 : decode cX7_clearFrame 59 = .ok (.getfield 10, 3) := by decide +kernel
theorem dX7_clearFrame_62 : decode cX7_clearFrame 62 = .ok (.getfield 83, 3) := by decide +kernel
theorem dX7_clearFrame_65 : decode cX7_clearFrame 65 = .ok (.if_icmp .le 20, 3) := by decide +kernel
theorem dX7_clearFrame_68 : decode cX7_clearFrame 68 = .ok (.aload_n 0, 1) := by decide +kernel
theorem dX7_clearFrame_69 : decode cX7_clearFrame 69 = .ok (.getfield 10, 3) := by decide +kernel
theorem dX7_clearFrame_72 : decode cX7_clearFrame 72 = .ok (.aload_n 2, 1) := by decide +kernel
theorem dX7_clearFrame_73 : decode cX7_clearFrame 73 = .ok (.getfield 127, 3) := by decide +kernel
theorem dX7_clearFrame_76 : decode cX7_clearFrame 76 = .ok (.iload 4, 2) := by decide +kernel
theorem dX7_clearFrame_78 : decode cX7_clearFrame 78 = .ok (.iload 5, 2) := by decide +kernel
theorem dX7_clearFrame_80 : decode cX7_clearFrame 80 = .ok (.invokevirtual 141, 3) := by decide +kernel
theorem dX7_clearFrame_83 : decode cX7_clearFrame 83 = .ok (.istore 4, 2) := by decide +kernel
theorem dX7_clearFrame_85 : decode cX7_clearFrame 85 = .ok (.aload_n 0, 1) := by decide +kernel
theorem dX7_clearFrame_86 : decode cX7_clearFrame 86 = .ok (.getfield 10, 3) := by decide +kernel
theorem dX7_clearFrame_89 : decode cX7_clearFrame 89 = .ok (.aload_n 2, 1) := by decide +kernel
theorem dX7_clearFrame_90 : decode cX7_clearFrame 90 = .ok (.iload 4, 2) := by decide +kernel
theorem dX7_clearFrame_92 : decode cX7_clearFrame 92 = .ok (.iload 5, 2) := by decide +kernel
theorem dX7_clearFrame_94 : decode cX7_clearFrame 94 = .ok (.invokevirtual 207, 3) := by decide +kernel
theorem dX7_clearFrame_97 : decode cX7_clearFrame 97 = .ok (.ifCond .lt 6, 3) := by decide +kernel
theorem dX7_clearFrame_100 : decode cX7_clearFrame 100 = .ok (.iload 5, 2) := by decide +kernel
theorem dX7_clearFrame_102 : decode cX7_clearFrame 102 = .ok (.ireturn, 1) := by decide +kernel
theorem dX7_clearFrame_103 : decode cX7_clearFrame 103 = .ok (.iinc 5 1, 3) := by decide +kernel
theorem dX7_clearFrame_106 : decode cX7_clearFrame 106 = .ok (.goto (-56), 3) := by decide +kernel
theorem dX7_clearFrame_109 : decode cX7_clearFrame 109 = .ok (.iconst (-1), 1) := by decide +kernel
theorem dX7_clearFrame_110 : decode cX7_clearFrame 110 = .ok (.ireturn, 1) := by decide +kernel
theorem dX7_queuedAt_0 : decode cX7_queuedAt 0 = .ok (.aload_n 0, 1) := by decide +kernel
theorem dX7_queuedAt_1 : decode cX7_queuedAt 1 = .ok (.getfield 10, 3) := by decide +kernel
theorem dX7_queuedAt_4 : decode cX7_queuedAt 4 = .ok (.iconst 0, 1) := by decide +kernel
theorem dX7_queuedAt_5 : decode cX7_queuedAt 5 = .ok (.invokevirtual 194, 3) := by decide +kernel
theorem dX7_queuedAt_8 : decode cX7_queuedAt 8 = .ok (.istore_n 2, 1) := by decide +kernel
theorem dX7_queuedAt_9 : decode cX7_queuedAt 9 = .ok (.iload_n 1, 1) := by decide +kernel
theorem dX7_queuedAt_10 : decode cX7_queuedAt 10 = .ok (.ifCond .lt 11, 3) := by decide +kernel
theorem dX7_queuedAt_13 : decode cX7_queuedAt 13 = .ok (.iload_n 1, 1) := by decide +kernel
theorem dX7_queuedAt_14 : decode cX7_queuedAt 14 = .ok (.iload_n 2, 1) := by decide +kernel
theorem dX7_queuedAt_15 : decode cX7_queuedAt 15 = .ok (.invokestatic 211, 3) := by decide +kernel
theorem dX7_queuedAt_18 : decode cX7_queuedAt 18 = .ok (.if_icmp .lt 5, 3) := by decide +kernel
theorem dX7_queuedAt_21 : decode cX7_queuedAt 21 = .ok (.iconst (-1), 1) := by decide +kernel
theorem dX7_queuedAt_22 : decode cX7_queuedAt 22 = .ok (.ireturn, 1) := by decide +kernel
theorem dX7_queuedAt_23 : decode cX7_queuedAt 23 = .ok (.iconst 0, 1) := by decide +kernel
theorem dX7_queuedAt_24 : decode cX7_queuedAt 24 = .ok (.istore_n 3, 1) := by decide +kernel
theorem dX7_queuedAt_25 : decode cX7_queuedAt 25 = .ok (.iload_n 3, 1) := by decide +kernel
theorem dX7_queuedAt_26 : decode cX7_queuedAt 26 = .ok (.iload_n 1, 1) := by decide +kernel
theorem dX7_queuedAt_27 : decode cX7_queuedAt 27 = .ok (.if_icmp .ge 24, 3) := by decide +kernel
theorem dX7_queuedAt_30 : decode cX7_queuedAt 30 = .ok (.iload_n 2, 1) := by decide +kernel
theorem dX7_queuedAt_31 : decode cX7_queuedAt 31 = .ok (.iconst 1, 1) := by decide +kernel
theorem dX7_queuedAt_32 : decode cX7_queuedAt 32 = .ok (.aload_n 0, 1) := by decide +kernel
theorem dX7_queuedAt_33 : decode cX7_queuedAt 33 = .ok (.getfield 10, 3) := by decide +kernel
theorem dX7_queuedAt_36 : decode cX7_queuedAt 36 = .ok (.iload_n 2, 1) := by decide +kernel
theorem dX7_queuedAt_37 : decode cX7_queuedAt 37 = .ok (.invokevirtual 216, 3) := by decide +kernel
theorem dX7_queuedAt_40 : decode cX7_queuedAt 40 = .ok (.ishl, 1) := by decide +kernel
theorem dX7_queuedAt_41 : decode cX7_queuedAt 41 = .ok (.iconst (-1), 1) := by decide +kernel
theorem dX7_queuedAt_42 : decode cX7_queuedAt 42 = .ok (.ixor, 1) := by decide +kernel
theorem dX7_queuedAt_43 : decode cX7_queuedAt 43 = .ok (.iand, 1) := by decide +kernel
theorem dX7_queuedAt_44 : decode cX7_queuedAt 44 = .ok (.istore_n 2, 1) := by decide +kernel
theorem dX7_queuedAt_45 : decode cX7_queuedAt 45 = .ok (.iinc 3 1, 3) := by decide +kernel
theorem dX7_queuedAt_48 : decode cX7_queuedAt 48 = .ok (.goto (-23), 3) := by decide +kernel
theorem dX7_queuedAt_51 : decode cX7_queuedAt 51 = .ok (.aload_n 0, 1) := by decide +kernel
theorem dX7_queuedAt_52 : decode cX7_queuedAt 52 = .ok (.getfield 10, 3) := by decide +kernel
theorem dX7_queuedAt_55 : decode cX7_queuedAt 55 = .ok (.iload_n 2, 1) := by decide +kernel
theorem dX7_queuedAt_56 : decode cX7_queuedAt 56 = .ok (.invokevirtual 216, 3) := by decide +kernel
theorem dX7_queuedAt_59 : decode cX7_queuedAt 59 = .ok (.ireturn, 1) := by decide +kernel
theorem dX7_queueLength_0 : decode cX7_queueLength 0 = .ok (.aload_n 0, 1) := by decide +kernel
theorem dX7_queueLength_1 : decode cX7_queueLength 1 = .ok (.getfield 10, 3) := by decide +kernel
theorem dX7_queueLength_4 : decode cX7_queueLength 4 = .ok (.iconst 0, 1) := by decide +kernel
theorem dX7_queueLength_5 : decode cX7_queueLength 5 = .ok (.invokevirtual 194, 3) := by decide +kernel
theorem dX7_queueLength_8 : decode cX7_queueLength 8 = .ok (.invokestatic 211, 3) := by decide +kernel
theorem dX7_queueLength_11 : decode cX7_queueLength 11 = .ok (.ireturn, 1) := by decide +kernel
theorem dX7_fitsWithout_0 : decode cX7_fitsWithout 0 = .ok (.aload_n 0, 1) := by decide +kernel
theorem dX7_fitsWithout_1 : decode cX7_fitsWithout 1 = .ok (.iload_n 1, 1) := by decide +kernel
theorem dX7_fitsWithout_2 : decode cX7_fitsWithout 2 = .ok (.invokevirtual 149, 3) := by decide +kernel
theorem dX7_fitsWithout_5 : decode cX7_fitsWithout 5 = .ok (.astore_n 3, 1) := by decide +kernel
theorem dX7_fitsWithout_6 : decode cX7_fitsWithout 6 = .ok (.aload_n 3, 1) := by decide +kernel
theorem dX7_fitsWithout_7 : decode cX7_fitsWithout 7 = .ok (.getfield 122, 3) := by decide +kernel
theorem dX7_fitsWithout_10 : decode cX7_fitsWithout 10 = .ok (.ifCond .eq 5, 3) := by decide +kernel
theorem dX7_fitsWithout_13 : decode cX7_fitsWithout 13 = .ok (.iconst 0, 1) := by decide +kernel
theorem dX7_fitsWithout_14 : decode cX7_fitsWithout 14 = .ok (.ireturn, 1) := by decide +kernel
theorem dX7_fitsWithout_15 : decode cX7_fitsWithout 15 = .ok (.iconst 0, 1) := by decide +kernel
theorem dX7_fitsWithout_16 : decode cX7_fitsWithout 16 = .ok (.istore 4, 2) := by decide +kernel
theorem dX7_fitsWithout_18 : decode cX7_fitsWithout 18 = .ok (.iload 4, 2) := by decide +kernel
theorem dX7_fitsWithout_20 : decode cX7_fitsWithout 20 = .ok (.aload_n 0, 1) := by decide +kernel
theorem dX7_fitsWithout_21 : decode cX7_fitsWithout 21 = .ok (.getfield 10, 3) := by decide +kernel
theorem dX7_fitsWithout_24 : decode cX7_fitsWithout 24 = .ok (.getfield 77, 3) := by decide +kernel
theorem dX7_fitsWithout_27 : decode cX7_fitsWithout 27 = .ok (.if_icmp .ge 26, 3) := by decide +kernel
theorem dX7_fitsWithout_30 : decode cX7_fitsWithout 30 = .ok (.aload_n 0, 1) := by decide +kernel
theorem dX7_fitsWithout_31 : decode cX7_fitsWithout 31 = .ok (.getfield 10, 3) := by decide +kernel
theorem dX7_fitsWithout_34 : decode cX7_fitsWithout 34 = .ok (.aload_n 3, 1) := by decide +kernel
theorem dX7_fitsWithout_35 : decode cX7_fitsWithout 35 = .ok (.iload 4, 2) := by decide +kernel
theorem dX7_fitsWithout_37 : decode cX7_fitsWithout 37 = .ok (.iload_n 2, 1) := by decide +kernel
theorem dX7_fitsWithout_38 : decode cX7_fitsWithout 38 = .ok (.invokevirtual 219, 3) := by decide +kernel
theorem dX7_fitsWithout_41 : decode cX7_fitsWithout 41 = .ok (.iconst (-1), 1) := by decide +kernel
theorem dX7_fitsWithout_42 : decode cX7_fitsWithout 42 = .ok (.if_icmp .eq 5, 3) := by decide +kernel
theorem dX7_fitsWithout_45 : decode cX7_fitsWithout 45 = .ok (.iconst 1, 1) := by decide +kernel
theorem dX7_fitsWithout_46 : decode cX7_fitsWithout 46 = .ok (.ireturn, 1) := by decide +kernel
theorem dX7_fitsWithout_47 : decode cX7_fitsWithout 47 = .ok (.iinc 4 1, 3) := by decide +kernel
theorem dX7_fitsWithout_50 : decode cX7_fitsWithout 50 = .ok (.goto (-32), 3) := by decide +kernel
theorem dX7_fitsWithout_53 : decode cX7_fitsWithout 53 = .ok (.iconst 0, 1) := by decide +kernel
theorem dX7_fitsWithout_54 : decode cX7_fitsWithout 54 = .ok (.ireturn, 1) := by decide +kernel
theorem dX7_callsToDrop_0 : decode cX7_callsToDrop 0 = .ok (.aload_n 0, 1) := by decide +kernel
theorem dX7_callsToDrop_1 : decode cX7_callsToDrop 1 = .ok (.iload_n 1, 1) := by decide +kernel
theorem dX7_callsToDrop_2 : decode cX7_callsToDrop 2 = .ok (.invokevirtual 149, 3) := by decide +kernel
theorem dX7_callsToDrop_5 : decode cX7_callsToDrop 5 = .ok (.astore_n 2, 1) := by decide +kernel
theorem dX7_callsToDrop_6 : decode cX7_callsToDrop 6 = .ok (.aload_n 2, 1) := by decide +kernel
theorem dX7_callsToDrop_7 : decode cX7_callsToDrop 7 = .ok (.getfield 122, 3) := by decide +kernel
theorem dX7_callsToDrop_10 : decode cX7_callsToDrop 10 = .ok (.ifCond .ne 14, 3) := by decide +kernel
theorem dX7_callsToDrop_13 : decode cX7_callsToDrop 13 = .ok (.aload_n 0, 1) := by decide +kernel
theorem dX7_callsToDrop_14 : decode cX7_callsToDrop 14 = .ok (.getfield 10, 3) := by decide +kernel
theorem dX7_callsToDrop_17 : decode cX7_callsToDrop 17 = .ok (.aload_n 2, 1) := by decide +kernel
theorem dX7_callsToDrop_18 : decode cX7_callsToDrop 18 = .ok (.invokevirtual 222, 3) := by decide +kernel
theorem dX7_callsToDrop_21 : decode cX7_callsToDrop 21 = .ok (.goto 4, 3) := by decide +kernel
theorem dX7_callsToDrop_24 : decode cX7_callsToDrop 24 = .ok (.iconst (-1), 1) := by decide +kernel
theorem dX7_callsToDrop_25 : decode cX7_callsToDrop 25 = .ok (.ireturn, 1) := by decide +kernel
theorem dX7_earliestStart_0 : decode cX7_earliestStart 0 = .ok (.aload_n 0, 1) := by decide +kernel
theorem dX7_earliestStart_1 : decode cX7_earliestStart 1 = .ok (.iload_n 1, 1) := by decide +kernel
theorem dX7_earliestStart_2 : decode cX7_earliestStart 2 = .ok (.invokevirtual 149, 3) := by decide +kernel
theorem dX7_earliestStart_5 : decode cX7_earliestStart 5 = .ok (.astore_n 3, 1) := by decide +kernel
theorem dX7_earliestStart_6 : decode cX7_earliestStart 6 = .ok (.aload_n 0, 1) := by decide +kernel
theorem dX7_earliestStart_7 : decode cX7_earliestStart 7 = .ok (.iload_n 2, 1) := by decide +kernel
theorem dX7_earliestStart_8 : decode cX7_earliestStart 8 = .ok (.invokevirtual 225, 3) := by decide +kernel
theorem dX7_earliestStart_11 : decode cX7_earliestStart 11 = .ok (.aload_n 3, 1) := by decide +kernel
theorem dX7_earliestStart_12 : decode cX7_earliestStart 12 = .ok (.getfield 122, 3) := by decide +kernel
theorem dX7_earliestStart_15 : decode cX7_earliestStart 15 = .ok (.ifCond .ne 16, 3) := by decide +kernel
theorem dX7_earliestStart_18 : decode cX7_earliestStart 18 = .ok (.aload_n 0, 1) := by decide +kernel
theorem dX7_earliestStart_19 : decode cX7_earliestStart 19 = .ok (.getfield 10, 3) := by decide +kernel
theorem dX7_earliestStart_22 : decode cX7_earliestStart 22 = .ok (.aload_n 3, 1) := by decide +kernel
theorem dX7_earliestStart_23 : decode cX7_earliestStart 23 = .ok (.iload_n 2, 1) := by decide +kernel
theorem dX7_earliestStart_24 : decode cX7_earliestStart 24 = .ok (.iconst 0, 1) := by decide +kernel
theorem dX7_earliestStart_25 : decode cX7_earliestStart 25 = .ok (.invokevirtual 219, 3) := by decide +kernel
theorem dX7_earliestStart_28 : decode cX7_earliestStart 28 = .ok (.goto 4, 3) := by decide +kernel
theorem dX7_earliestStart_31 : decode cX7_earliestStart 31 = .ok (.iconst (-1), 1) := by decide +kernel
theorem dX7_earliestStart_32 : decode cX7_earliestStart 32 = .ok (.ireturn, 1) := by decide +kernel
theorem dX7_framesToWait_0 : decode cX7_framesToWait 0 = .ok (.aload_n 0, 1) := by decide +kernel
theorem dX7_framesToWait_1 : decode cX7_framesToWait 1 = .ok (.iload_n 1, 1) := by decide +kernel
theorem dX7_framesToWait_2 : decode cX7_framesToWait 2 = .ok (.invokevirtual 149, 3) := by decide +kernel
theorem dX7_framesToWait_5 : decode cX7_framesToWait 5 = .ok (.getfield 122, 3) := by decide +kernel
theorem dX7_framesToWait_8 : decode cX7_framesToWait 8 = .ok (.ifCond .eq 5, 3) := by decide +kernel
theorem dX7_framesToWait_11 : decode cX7_framesToWait 11 = .ok (.iconst (-1), 1) := by decide +kernel
theorem dX7_framesToWait_12 : decode cX7_framesToWait 12 = .ok (.ireturn, 1) := by decide +kernel
theorem dX7_framesToWait_13 : decode cX7_framesToWait 13 = .ok (.aload_n 0, 1) := by decide +kernel
theorem dX7_framesToWait_14 : decode cX7_framesToWait 14 = .ok (.getfield 16, 3) := by decide +kernel
theorem dX7_framesToWait_17 : decode cX7_framesToWait 17 = .ok (.aload_n 0, 1) := by decide +kernel
theorem dX7_framesToWait_18 : decode cX7_framesToWait 18 = .ok (.getfield 10, 3) := by decide +kernel
theorem dX7_framesToWait_21 : decode cX7_framesToWait 21 = .ok (.invokevirtual 61, 3) := by decide +kernel
theorem dX7_framesToWait_24 : decode cX7_framesToWait 24 = .ok (.iconst 1, 1) := by decide +kernel
theorem dX7_framesToWait_25 : decode cX7_framesToWait 25 = .ok (.istore_n 2, 1) := by decide +kernel
theorem dX7_framesToWait_26 : decode cX7_framesToWait 26 = .ok (.iload_n 2, 1) := by decide +kernel
theorem dX7_framesToWait_27 : decode cX7_framesToWait 27 = .ok (.sipush 200, 3) := by decide +kernel
theorem dX7_framesToWait_30 : decode cX7_framesToWait 30 = .ok (.if_icmp .gt 60, 3) := by decide +kernel
theorem dX7_framesToWait_33 : decode cX7_framesToWait 33 = .ok (.aload_n 0, 1) := by decide +kernel
theorem dX7_framesToWait_34 : decode cX7_framesToWait 34 = .ok (.getfield 16, 3) := by decide +kernel
theorem dX7_framesToWait_37 : decode cX7_framesToWait 37 = .ok (.getfield 83, 3) := by decide +kernel
theorem dX7_framesToWait_40 : decode cX7_framesToWait 40 = .ok (.sipush 9999, 3) := by decide +kernel
theorem dX7_framesToWait_43 : decode cX7_framesToWait 43 = .ok (.if_icmp .ge 47, 3) := by decide +kernel
theorem dX7_framesToWait_46 : decode cX7_framesToWait 46 = .ok (.aload_n 0, 1) := by decide +kernel
theorem dX7_framesToWait_47 : decode cX7_framesToWait 47 = .ok (.getfield 16, 3) := by decide +kernel
theorem dX7_framesToWait_50 : decode cX7_framesToWait 50 = .ok (.dup, 1) := by decide +kernel
theorem dX7_framesToWait_51 : decode cX7_framesToWait 51 = .ok (.getfield 83, 3) := by decide +kernel
theorem dX7_framesToWait_54 : decode cX7_framesToWait 54 = .ok (.iconst 1, 1) := by decide +kernel
theorem dX7_framesToWait_55 : decode cX7_framesToWait 55 = .ok (.iadd, 1) := by decide +kernel
theorem dX7_framesToWait_56 : decode cX7_framesToWait 56 = .ok (.putfield 83, 3) := by decide +kernel
theorem dX7_framesToWait_59 : decode cX7_framesToWait 59 = .ok (.aload_n 0, 1) := by decide +kernel
theorem dX7_framesToWait_60 : decode cX7_framesToWait 60 = .ok (.getfield 16, 3) := by decide +kernel
theorem dX7_framesToWait_63 : decode cX7_framesToWait 63 = .ok (.invokevirtual 229, 3) := by decide +kernel
theorem dX7_framesToWait_66 : decode cX7_framesToWait 66 = .ok (.aload_n 0, 1) := by decide +kernel
theorem dX7_framesToWait_67 : decode cX7_framesToWait 67 = .ok (.getfield 16, 3) := by decide +kernel
theorem dX7_framesToWait_70 : decode cX7_framesToWait 70 = .ok (.getfield 118, 3) := by decide +kernel
theorem dX7_framesToWait_73 : decode cX7_framesToWait 73 = .ok (.iload_n 1, 1) := by decide +kernel
theorem dX7_framesToWait_74 : decode cX7_framesToWait 74 = .ok (.aaload, 1) := by decide +kernel
theorem dX7_framesToWait_75 : decode cX7_framesToWait 75 = .ok (.getfield 122, 3) := by decide +kernel
theorem dX7_framesToWait_78 : decode cX7_framesToWait 78 = .ok (.iconst 1, 1) := by decide +kernel
theorem dX7_framesToWait_79 : decode cX7_framesToWait 79 = .ok (.if_icmp .ne 5, 3) := by decide +kernel
theorem dX7_framesToWait_82 : decode cX7_framesToWait 82 = .ok (.iload_n 2, 1) := by decide +kernel
theorem dX7_framesToWait_83 : decode cX7_framesToWait 83 = .ok (.ireturn, 1) := by decide +kernel
theorem dX7_framesToWait_84 : decode cX7_framesToWait 84 = .ok (.iinc 2 1, 3) := by decide +kernel
theorem dX7_framesToWait_87 : decode cX7_framesToWait 87 = .ok (.goto (-61), 3) := by decide +kernel
theorem dX7_framesToWait_90 : decode cX7_framesToWait 90 = .ok (.iconst (-1), 1) := by decide +kernel
theorem dX7_framesToWait_91 : decode cX7_framesToWait 91 = .ok (.ireturn, 1) := by decide +kernel
theorem dX7_callsOn_0 : decode cX7_callsOn 0 = .ok (.aload_n 0, 1) := by decide +kernel
theorem dX7_callsOn_1 : decode cX7_callsOn 1 = .ok (.iload_n 1, 1) := by decide +kernel
theorem dX7_callsOn_2 : decode cX7_callsOn 2 = .ok (.invokevirtual 225, 3) := by decide +kernel
theorem dX7_callsOn_5 : decode cX7_callsOn 5 = .ok (.iconst 0, 1) := by decide +kernel
theorem dX7_callsOn_6 : decode cX7_callsOn 6 = .ok (.istore_n 2, 1) := by decide +kernel
theorem dX7_callsOn_7 : decode cX7_callsOn 7 = .ok (.iconst 0, 1) := by decide +kernel
theorem dX7_callsOn_8 : decode cX7_callsOn 8 = .ok (.istore_n 3, 1) := by decide +kernel
theorem dX7_callsOn_9 : decode cX7_callsOn 9 = .ok (.iload_n 3, 1) := by decide +kernel
theorem dX7_callsOn_10 : decode cX7_callsOn 10 = .ok (.aload_n 0, 1) := by decide +kernel
theorem dX7_callsOn_11 : decode cX7_callsOn 11 = .ok (.getfield 10, 3) := by decide +kernel
theorem dX7_callsOn_14 : decode cX7_callsOn 14 = .ok (.getfield 74, 3) := by decide +kernel
theorem dX7_callsOn_17 : decode cX7_callsOn 17 = .ok (.if_icmp .ge 28, 3) := by decide +kernel
theorem dX7_callsOn_20 : decode cX7_callsOn 20 = .ok (.aload_n 0, 1) := by decide +kernel
theorem dX7_callsOn_21 : decode cX7_callsOn 21 = .ok (.getfield 10, 3) := by decide +kernel
theorem dX7_callsOn_24 : decode cX7_callsOn 24 = .ok (.getfield 118, 3) := by decide +kernel
theorem dX7_callsOn_27 : decode cX7_callsOn 27 = .ok (.iload_n 3, 1) := by decide +kernel
theorem dX7_callsOn_28 : decode cX7_callsOn 28 = .ok (.aaload, 1) := by decide +kernel
theorem dX7_callsOn_29 : decode cX7_callsOn 29 = .ok (.iload_n 1, 1) := by decide +kernel
theorem dX7_callsOn_30 : decode cX7_callsOn 30 = .ok (.invokevirtual 232, 3) := by decide +kernel
theorem dX7_callsOn_33 : decode cX7_callsOn 33 = .ok (.ifCond .eq 6, 3) := by decide +kernel
theorem dX7_callsOn_36 : decode cX7_callsOn 36 = .ok (.iinc 2 1, 3) := by decide +kernel
theorem dX7_callsOn_39 : decode cX7_callsOn 39 = .ok (.iinc 3 1, 3) := by decide +kernel
theorem dX7_callsOn_42 : decode cX7_callsOn 42 = .ok (.goto (-33), 3) := by decide +kernel
theorem dX7_callsOn_45 : decode cX7_callsOn 45 = .ok (.iload_n 2, 1) := by decide +kernel
theorem dX7_callsOn_46 : decode cX7_callsOn 46 = .ok (.ireturn, 1) := by decide +kernel
theorem dX7_usedSymbols_0 : decode cX7_usedSymbols 0 = .ok (.aload_n 0, 1) := by decide +kernel
theorem dX7_usedSymbols_1 : decode cX7_usedSymbols 1 = .ok (.iload_n 1, 1) := by decide +kernel
theorem dX7_usedSymbols_2 : decode cX7_usedSymbols 2 = .ok (.invokevirtual 225, 3) := by decide +kernel
theorem dX7_usedSymbols_5 : decode cX7_usedSymbols 5 = .ok (.iconst 0, 1) := by decide +kernel
theorem dX7_usedSymbols_6 : decode cX7_usedSymbols 6 = .ok (.istore_n 2, 1) := by decide +kernel
theorem dX7_usedSymbols_7 : decode cX7_usedSymbols 7 = .ok (.iconst 0, 1) := by decide +kernel
theorem dX7_usedSymbols_8 : decode cX7_usedSymbols 8 = .ok (.istore_n 3, 1) := by decide +kernel
theorem dX7_usedSymbols_9 : decode cX7_usedSymbols 9 = .ok (.iload_n 3, 1) := by decide +kernel
theorem dX7_usedSymbols_10 : decode cX7_usedSymbols 10 = .ok (.aload_n 0, 1) := by decide +kernel
theorem dX7_usedSymbols_11 : decode cX7_usedSymbols 11 = .ok (.getfield 10, 3) := by decide +kernel
theorem dX7_usedSymbols_14 : decode cX7_usedSymbols 14 = .ok (.getfield 74, 3) := by decide +kernel
theorem dX7_usedSymbols_17 : decode cX7_usedSymbols 17 = .ok (.if_icmp .ge 40, 3) := by decide +kernel
theorem dX7_usedSymbols_20 : decode cX7_usedSymbols 20 = .ok (.aload_n 0, 1) := by decide +kernel
theorem dX7_usedSymbols_21 : decode cX7_usedSymbols 21 = .ok (.getfield 10, 3) := by decide +kernel
theorem dX7_usedSymbols_24 : decode cX7_usedSymbols 24 = .ok (.getfield 118, 3) := by decide +kernel
theorem dX7_usedSymbols_27 : decode cX7_usedSymbols 27 = .ok (.iload_n 3, 1) := by decide +kernel
theorem dX7_usedSymbols_28 : decode cX7_usedSymbols 28 = .ok (.aaload, 1) := by decide +kernel
theorem dX7_usedSymbols_29 : decode cX7_usedSymbols 29 = .ok (.iload_n 1, 1) := by decide +kernel
theorem dX7_usedSymbols_30 : decode cX7_usedSymbols 30 = .ok (.invokevirtual 232, 3) := by decide +kernel
theorem dX7_usedSymbols_33 : decode cX7_usedSymbols 33 = .ok (.ifCond .eq 18, 3) := by decide +kernel
theorem dX7_usedSymbols_36 : decode cX7_usedSymbols 36 = .ok (.iload_n 2, 1) := by decide +kernel
theorem dX7_usedSymbols_37 : decode cX7_usedSymbols 37 = .ok (.aload_n 0, 1) := by decide +kernel
theorem dX7_usedSymbols_38 : decode cX7_usedSymbols 38 = .ok (.getfield 10, 3) := by decide +kernel
theorem dX7_usedSymbols_41 : decode cX7_usedSymbols 41 = .ok (.getfield 118, 3) := by decide +kernel
theorem dX7_usedSymbols_44 : decode cX7_usedSymbols 44 = .ok (.iload_n 3, 1) := by decide +kernel
theorem dX7_usedSymbols_45 : decode cX7_usedSymbols 45 = .ok (.aaload, 1) := by decide +kernel
theorem dX7_usedSymbols_46 : decode cX7_usedSymbols 46 = .ok (.getfield 130, 3) := by decide +kernel
theorem dX7_usedSymbols_49 : decode cX7_usedSymbols 49 = .ok (.iadd, 1) := by decide +kernel
theorem dX7_usedSymbols_50 : decode cX7_usedSymbols 50 = .ok (.istore_n 2, 1) := by decide +kernel
theorem dX7_usedSymbols_51 : decode cX7_usedSymbols 51 = .ok (.iinc 3 1, 3) := by decide +kernel
theorem dX7_usedSymbols_54 : decode cX7_usedSymbols 54 = .ok (.goto (-45), 3) := by decide +kernel
theorem dX7_usedSymbols_57 : decode cX7_usedSymbols 57 = .ok (.iload_n 2, 1) := by decide +kernel
theorem dX7_usedSymbols_58 : decode cX7_usedSymbols 58 = .ok (.ireturn, 1) := by decide +kernel
theorem dX7_callAt_0 : decode cX7_callAt 0 = .ok (.aload_n 0, 1) := by decide +kernel
theorem dX7_callAt_1 : decode cX7_callAt 1 = .ok (.iload_n 1, 1) := by decide +kernel
theorem dX7_callAt_2 : decode cX7_callAt 2 = .ok (.invokevirtual 225, 3) := by decide +kernel
theorem dX7_callAt_5 : decode cX7_callAt 5 = .ok (.iconst 0, 1) := by decide +kernel
theorem dX7_callAt_6 : decode cX7_callAt 6 = .ok (.istore_n 3, 1) := by decide +kernel
theorem dX7_callAt_7 : decode cX7_callAt 7 = .ok (.iload_n 3, 1) := by decide +kernel
theorem dX7_callAt_8 : decode cX7_callAt 8 = .ok (.aload_n 0, 1) := by decide +kernel
theorem dX7_callAt_9 : decode cX7_callAt 9 = .ok (.getfield 10, 3) := by decide +kernel
theorem dX7_callAt_12 : decode cX7_callAt 12 = .ok (.getfield 74, 3) := by decide +kernel
theorem dX7_callAt_15 : decode cX7_callAt 15 = .ok (.if_icmp .ge 51, 3) := by decide +kernel
theorem dX7_callAt_18 : decode cX7_callAt 18 = .ok (.aload_n 0, 1) := by decide +kernel
theorem dX7_callAt_19 : decode cX7_callAt 19 = .ok (.getfield 10, 3) := by decide +kernel
theorem dX7_callAt_22 : decode cX7_callAt 22 = .ok (.getfield 118, 3) := by decide +kernel
theorem dX7_callAt_25 : decode cX7_callAt 25 = .ok (.iload_n 3, 1) := by decide +kernel
theorem dX7_callAt_26 : decode cX7_callAt 26 = .ok (.aaload, 1) := by decide +kernel
theorem dX7_callAt_27 : decode cX7_callAt 27 = .ok (.iload_n 1, 1) := by decide +kernel
theorem dX7_callAt_28 : decode cX7_callAt 28 = .ok (.invokevirtual 232, 3) := by decide +kernel
theorem dX7_callAt_31 : decode cX7_callAt 31 = .ok (.ifCond .eq 29, 3) := by decide +kernel
theorem dX7_callAt_34 : decode cX7_callAt 34 = .ok (.aload_n 0, 1) := by decide +kernel
theorem dX7_callAt_35 : decode cX7_callAt 35 = .ok (.getfield 10, 3) := by decide +kernel
theorem dX7_callAt_38 : decode cX7_callAt 38 = .ok (.iload_n 1, 1) := by decide +kernel
theorem dX7_callAt_39 : decode cX7_callAt 39 = .ok (.aload_n 0, 1) := by decide +kernel
theorem dX7_callAt_40 : decode cX7_callAt 40 = .ok (.getfield 10, 3) := by decide +kernel
theorem dX7_callAt_43 : decode cX7_callAt 43 = .ok (.getfield 118, 3) := by decide +kernel
theorem dX7_callAt_46 : decode cX7_callAt 46 = .ok (.iload_n 3, 1) := by decide +kernel
theorem dX7_callAt_47 : decode cX7_callAt 47 = .ok (.aaload, 1) := by decide +kernel
theorem dX7_callAt_48 : decode cX7_callAt 48 = .ok (.getfield 162, 3) := by decide +kernel
theorem dX7_callAt_51 : decode cX7_callAt 51 = .ok (.invokevirtual 236, 3) := by decide +kernel
theorem dX7_callAt_54 : decode cX7_callAt 54 = .ok (.iload_n 2, 1) := by decide +kernel
theorem dX7_callAt_55 : decode cX7_callAt 55 = .ok (.if_icmp .ne 5, 3) := by decide +kernel
theorem dX7_callAt_58 : decode cX7_callAt 58 = .ok (.iload_n 3, 1) := by decide +kernel
theorem dX7_callAt_59 : decode cX7_callAt 59 = .ok (.ireturn, 1) := by decide +kernel
theorem dX7_callAt_60 : decode cX7_callAt 60 = .ok (.iinc 3 1, 3) := by decide +kernel
theorem dX7_callAt_63 : decode cX7_callAt 63 = .ok (.goto (-56), 3) := by decide +kernel
theorem dX7_callAt_66 : decode cX7_callAt 66 = .ok (.iconst (-1), 1) := by decide +kernel
theorem dX7_callAt_67 : decode cX7_callAt 67 = .ok (.ireturn, 1) := by decide +kernel
theorem dX7_callOver_0 : decode cX7_callOver 0 = .ok (.aload_n 0, 1) := by decide +kernel
theorem dX7_callOver_1 : decode cX7_callOver 1 = .ok (.iload_n 1, 1) := by decide +kernel
theorem dX7_callOver_2 : decode cX7_callOver 2 = .ok (.invokevirtual 225, 3) := by decide +kernel
theorem dX7_callOver_5 : decode cX7_callOver 5 = .ok (.iconst 0, 1) := by decide +kernel
theorem dX7_callOver_6 : decode cX7_callOver 6 = .ok (.istore_n 3, 1) := by decide +kernel
theorem dX7_callOver_7 : decode cX7_callOver 7 = .ok (.iload_n 3, 1) := by decide +kernel
theorem dX7_callOver_8 : decode cX7_callOver 8 = .ok (.aload_n 0, 1) := by decide +kernel
theorem dX7_callOver_9 : decode cX7_callOver 9 = .ok (.getfield 10, 3) := by decide +kernel
theorem dX7_callOver_12 : decode cX7_callOver 12 = .ok (.getfield 74, 3) := by decide +kernel
theorem dX7_callOver_15 : decode cX7_callOver 15 = .ok (.if_icmp .ge 55, 3) := by decide +kernel
theorem dX7_callOver_18 : decode cX7_callOver 18 = .ok (.aload_n 0, 1) := by decide +kernel
theorem dX7_callOver_19 : decode cX7_callOver 19 = .ok (.getfield 10, 3) := by decide +kernel
theorem dX7_callOver_22 : decode cX7_callOver 22 = .ok (.getfield 118, 3) := by decide +kernel
theorem dX7_callOver_25 : decode cX7_callOver 25 = .ok (.iload_n 3, 1) := by decide +kernel
theorem dX7_callOver_26 : decode cX7_callOver 26 = .ok (.aaload, 1) := by decide +kernel
theorem dX7_callOver_27 : decode cX7_callOver 27 = .ok (.astore 4, 2) := by decide +kernel
theorem dX7_callOver_29 : decode cX7_callOver 29 = .ok (.aload 4, 2) := by decide +kernel
theorem dX7_callOver_31 : decode cX7_callOver 31 = .ok (.iload_n 1, 1) := by decide +kernel
theorem dX7_callOver_32 : decode cX7_callOver 32 = .ok (.invokevirtual 232, 3) := by decide +kernel
theorem dX7_callOver_35 : decode cX7_callOver 35 = .ok (.ifCond .eq 29, 3) := by decide +kernel
theorem dX7_callOver_38 : decode cX7_callOver 38 = .ok (.aload 4, 2) := by decide +kernel
theorem dX7_callOver_40 : decode cX7_callOver 40 = .ok (.getfield 162, 3) := by decide +kernel
theorem dX7_callOver_43 : decode cX7_callOver 43 = .ok (.iload_n 2, 1) := by decide +kernel
theorem dX7_callOver_44 : decode cX7_callOver 44 = .ok (.if_icmp .gt 20, 3) := by decide +kernel
theorem dX7_callOver_47 : decode cX7_callOver 47 = .ok (.iload_n 2, 1) := by decide +kernel
theorem dX7_callOver_48 : decode cX7_callOver 48 = .ok (.aload 4, 2) := by decide +kernel
theorem dX7_callOver_50 : decode cX7_callOver 50 = .ok (.getfield 162, 3) := by decide +kernel
theorem dX7_callOver_53 : decode cX7_callOver 53 = .ok (.aload 4, 2) := by decide +kernel
theorem dX7_callOver_55 : decode cX7_callOver 55 = .ok (.getfield 130, 3) := by decide +kernel
theorem dX7_callOver_58 : decode cX7_callOver 58 = .ok (.iadd, 1) := by decide +kernel
theorem dX7_callOver_59 : decode cX7_callOver 59 = .ok (.if_icmp .ge 5, 3) := by decide +kernel
theorem dX7_callOver_62 : decode cX7_callOver 62 = .ok (.iload_n 3, 1) := by decide +kernel
theorem dX7_callOver_63 : decode cX7_callOver 63 = .ok (.ireturn, 1) := by decide +kernel
theorem dX7_callOver_64 : decode cX7_callOver 64 = .ok (.iinc 3 1, 3) := by decide +kernel
theorem dX7_callOver_67 : decode cX7_callOver 67 = .ok (.goto (-60), 3) := by decide +kernel
theorem dX7_callOver_70 : decode cX7_callOver 70 = .ok (.iconst (-1), 1) := by decide +kernel
theorem dX7_callOver_71 : decode cX7_callOver 71 = .ok (.ireturn, 1) := by decide +kernel
theorem dX7_longestFit_0 : decode cX7_longestFit 0 = .ok (.aload_n 0, 1) := by decide +kernel
theorem dX7_longestFit_1 : decode cX7_longestFit 1 = .ok (.iload_n 1, 1) := by decide +kernel
theorem dX7_longestFit_2 : decode cX7_longestFit 2 = .ok (.invokevirtual 225, 3) := by decide +kernel
theorem dX7_longestFit_5 : decode cX7_longestFit 5 = .ok (.aload_n 0, 1) := by decide +kernel
theorem dX7_longestFit_6 : decode cX7_longestFit 6 = .ok (.getfield 10, 3) := by decide +kernel
theorem dX7_longestFit_9 : decode cX7_longestFit 9 = .ok (.iload_n 1, 1) := by decide +kernel
theorem dX7_longestFit_10 : decode cX7_longestFit 10 = .ok (.invokevirtual 239, 3) := by decide +kernel
theorem dX7_longestFit_13 : decode cX7_longestFit 13 = .ok (.ireturn, 1) := by decide +kernel
theorem dX7_nextEnd_0 : decode cX7_nextEnd 0 = .ok (.iconst (-1), 1) := by decide +kernel
theorem dX7_nextEnd_1 : decode cX7_nextEnd 1 = .ok (.istore_n 1, 1) := by decide +kernel
theorem dX7_nextEnd_2 : decode cX7_nextEnd 2 = .ok (.iconst 0, 1) := by decide +kernel
theorem dX7_nextEnd_3 : decode cX7_nextEnd 3 = .ok (.istore_n 2, 1) := by decide +kernel
theorem dX7_nextEnd_4 : decode cX7_nextEnd 4 = .ok (.iload_n 2, 1) := by decide +kernel
theorem dX7_nextEnd_5 : decode cX7_nextEnd 5 = .ok (.aload_n 0, 1) := by decide +kernel
theorem dX7_nextEnd_6 : decode cX7_nextEnd 6 = .ok (.getfield 10, 3) := by decide +kernel
theorem dX7_nextEnd_9 : decode cX7_nextEnd 9 = .ok (.getfield 74, 3) := by decide +kernel
theorem dX7_nextEnd_12 : decode cX7_nextEnd 12 = .ok (.if_icmp .ge 45, 3) := by decide +kernel
theorem dX7_nextEnd_15 : decode cX7_nextEnd 15 = .ok (.aload_n 0, 1) := by decide +kernel
theorem dX7_nextEnd_16 : decode cX7_nextEnd 16 = .ok (.getfield 10, 3) := by decide +kernel
theorem dX7_nextEnd_19 : decode cX7_nextEnd 19 = .ok (.getfield 118, 3) := by decide +kernel
theorem dX7_nextEnd_22 : decode cX7_nextEnd 22 = .ok (.iload_n 2, 1) := by decide +kernel
theorem dX7_nextEnd_23 : decode cX7_nextEnd 23 = .ok (.aaload, 1) := by decide +kernel
theorem dX7_nextEnd_24 : decode cX7_nextEnd 24 = .ok (.astore_n 3, 1) := by decide +kernel
theorem dX7_nextEnd_25 : decode cX7_nextEnd 25 = .ok (.aload_n 3, 1) := by decide +kernel
theorem dX7_nextEnd_26 : decode cX7_nextEnd 26 = .ok (.getfield 122, 3) := by decide +kernel
theorem dX7_nextEnd_29 : decode cX7_nextEnd 29 = .ok (.iconst 1, 1) := by decide +kernel
theorem dX7_nextEnd_30 : decode cX7_nextEnd 30 = .ok (.if_icmp .ne 21, 3) := by decide +kernel
theorem dX7_nextEnd_33 : decode cX7_nextEnd 33 = .ok (.iload_n 1, 1) := by decide +kernel
theorem dX7_nextEnd_34 : decode cX7_nextEnd 34 = .ok (.iconst (-1), 1) := by decide +kernel
theorem dX7_nextEnd_35 : decode cX7_nextEnd 35 = .ok (.if_icmp .eq 11, 3) := by decide +kernel
theorem dX7_nextEnd_38 : decode cX7_nextEnd 38 = .ok (.aload_n 3, 1) := by decide +kernel
theorem dX7_nextEnd_39 : decode cX7_nextEnd 39 = .ok (.invokevirtual 177, 3) := by decide +kernel
theorem dX7_nextEnd_42 : decode cX7_nextEnd 42 = .ok (.iload_n 1, 1) := by decide +kernel
theorem dX7_nextEnd_43 : decode cX7_nextEnd 43 = .ok (.if_icmp .ge 8, 3) := by decide +kernel
theorem dX7_nextEnd_46 : decode cX7_nextEnd 46 = .ok (.aload_n 3, 1) := by decide +kernel
theorem dX7_nextEnd_47 : decode cX7_nextEnd 47 = .ok (.invokevirtual 177, 3) := by decide +kernel
theorem dX7_nextEnd_50 : decode cX7_nextEnd 50 = .ok (.istore_n 1, 1) := by decide +kernel
theorem dX7_nextEnd_51 : decode cX7_nextEnd 51 = .ok (.iinc 2 1, 3) := by decide +kernel
theorem dX7_nextEnd_54 : decode cX7_nextEnd 54 = .ok (.goto (-50), 3) := by decide +kernel
theorem dX7_nextEnd_57 : decode cX7_nextEnd 57 = .ok (.iload_n 1, 1) := by decide +kernel
theorem dX7_nextEnd_58 : decode cX7_nextEnd 58 = .ok (.ireturn, 1) := by decide +kernel
theorem dX7_carriersNeeded_0 : decode cX7_carriersNeeded 0 = .ok (.aload_n 0, 1) := by decide +kernel
theorem dX7_carriersNeeded_1 : decode cX7_carriersNeeded 1 = .ok (.getfield 10, 3) := by decide +kernel
theorem dX7_carriersNeeded_4 : decode cX7_carriersNeeded 4 = .ok (.iconst 0, 1) := by decide +kernel
theorem dX7_carriersNeeded_5 : decode cX7_carriersNeeded 5 = .ok (.invokevirtual 194, 3) := by decide +kernel
theorem dX7_carriersNeeded_8 : decode cX7_carriersNeeded 8 = .ok (.aload_n 0, 1) := by decide +kernel
theorem dX7_carriersNeeded_9 : decode cX7_carriersNeeded 9 = .ok (.getfield 10, 3) := by decide +kernel
theorem dX7_carriersNeeded_12 : decode cX7_carriersNeeded 12 = .ok (.iconst 1, 1) := by decide +kernel
theorem dX7_carriersNeeded_13 : decode cX7_carriersNeeded 13 = .ok (.invokevirtual 194, 3) := by decide +kernel
theorem dX7_carriersNeeded_16 : decode cX7_carriersNeeded 16 = .ok (.ior, 1) := by decide +kernel
theorem dX7_carriersNeeded_17 : decode cX7_carriersNeeded 17 = .ok (.istore_n 1, 1) := by decide +kernel
theorem dX7_carriersNeeded_18 : decode cX7_carriersNeeded 18 = .ok (.aload_n 0, 1) := by decide +kernel
theorem dX7_carriersNeeded_19 : decode cX7_carriersNeeded 19 = .ok (.getfield 16, 3) := by decide +kernel
theorem dX7_carriersNeeded_22 : decode cX7_carriersNeeded 22 = .ok (.aload_n 0, 1) := by decide +kernel
theorem dX7_carriersNeeded_23 : decode cX7_carriersNeeded 23 = .ok (.getfield 10, 3) := by decide +kernel
theorem dX7_carriersNeeded_26 : decode cX7_carriersNeeded 26 = .ok (.invokevirtual 61, 3) := by decide +kernel
theorem dX7_carriersNeeded_29 : decode cX7_carriersNeeded 29 = .ok (.iconst 1, 1) := by decide +kernel
theorem dX7_carriersNeeded_30 : decode cX7_carriersNeeded 30 = .ok (.istore_n 2, 1) := by decide +kernel
theorem dX7_carriersNeeded_31 : decode cX7_carriersNeeded 31 = .ok (.iload_n 2, 1) := by decide +kernel
theorem dX7_carriersNeeded_32 : decode cX7_carriersNeeded 32 = .ok (.iconst 4, 1) := by decide +kernel
theorem dX7_carriersNeeded_33 : decode cX7_carriersNeeded 33 = .ok (.if_icmp .gt 30, 3) := by decide +kernel
theorem dX7_carriersNeeded_36 : decode cX7_carriersNeeded 36 = .ok (.aload_n 0, 1) := by decide +kernel
theorem dX7_carriersNeeded_37 : decode cX7_carriersNeeded 37 = .ok (.getfield 16, 3) := by decide +kernel
theorem dX7_carriersNeeded_40 : decode cX7_carriersNeeded 40 = .ok (.iload_n 2, 1) := by decide +kernel
theorem dX7_carriersNeeded_41 : decode cX7_carriersNeeded 41 = .ok (.putfield 77, 3) := by decide +kernel
theorem dX7_carriersNeeded_44 : decode cX7_carriersNeeded 44 = .ok (.aload_n 0, 1) := by decide +kernel
theorem dX7_carriersNeeded_45 : decode cX7_carriersNeeded 45 = .ok (.getfield 16, 3) := by decide +kernel
theorem dX7_carriersNeeded_48 : decode cX7_carriersNeeded 48 = .ok (.iload_n 1, 1) := by decide +kernel
theorem dX7_carriersNeeded_49 : decode cX7_carriersNeeded 49 = .ok (.invokevirtual 242, 3) := by decide +kernel
theorem dX7_carriersNeeded_52 : decode cX7_carriersNeeded 52 = .ok (.ifCond .eq 5, 3) := by decide +kernel
theorem dX7_carriersNeeded_55 : decode cX7_carriersNeeded 55 = .ok (.iload_n 2, 1) := by decide +kernel
theorem dX7_carriersNeeded_56 : decode cX7_carriersNeeded 56 = .ok (.ireturn, 1) := by decide +kernel
theorem dX7_carriersNeeded_57 : decode cX7_carriersNeeded 57 = .ok (.iinc 2 1, 3) := by decide +kernel
theorem dX7_carriersNeeded_60 : decode cX7_carriersNeeded 60 = .ok (.goto (-29), 3) := by decide +kernel
theorem dX7_carriersNeeded_63 : decode cX7_carriersNeeded 63 = .ok (.iconst (-1), 1) := by decide +kernel
theorem dX7_carriersNeeded_64 : decode cX7_carriersNeeded 64 = .ok (.ireturn, 1) := by decide +kernel
theorem dX7_request_0 : decode cX7_request 0 = .ok (.aload_n 0, 1) := by decide +kernel
theorem dX7_request_1 : decode cX7_request 1 = .ok (.getfield 10, 3) := by decide +kernel
theorem dX7_request_4 : decode cX7_request 4 = .ok (.getfield 71, 3) := by decide +kernel
theorem dX7_request_7 : decode cX7_request 7 = .ok (.iconst 1, 1) := by decide +kernel
theorem dX7_request_8 : decode cX7_request 8 = .ok (.isub, 1) := by decide +kernel
theorem dX7_request_9 : decode cX7_request 9 = .ok (.istore 6, 2) := by decide +kernel
theorem dX7_request_11 : decode cX7_request 11 = .ok (.iload_n 1, 1) := by decide +kernel
theorem dX7_request_12 : decode cX7_request 12 = .ok (.iconst 0, 1) := by decide +kernel
theorem dX7_request_13 : decode cX7_request 13 = .ok (.iload 6, 2) := by decide +kernel
theorem dX7_request_15 : decode cX7_request 15 = .ok (.invokestatic 86, 3) := by decide +kernel
theorem dX7_request_18 : decode cX7_request 18 = .ok (.ifCond .eq 18, 3) := by decide +kernel
theorem dX7_request_21 : decode cX7_request 21 = .ok (.iload_n 2, 1) := by decide +kernel
theorem dX7_request_22 : decode cX7_request 22 = .ok (.iconst 0, 1) := by decide +kernel
theorem dX7_request_23 : decode cX7_request 23 = .ok (.iload 6, 2) := by decide +kernel
theorem dX7_request_25 : decode cX7_request 25 = .ok (.invokestatic 86, 3) := by decide +kernel
theorem dX7_request_28 : decode cX7_request 28 = .ok (.ifCond .eq 8, 3) := by decide +kernel
theorem dX7_request_31 : decode cX7_request 31 = .ok (.iload_n 1, 1) := by decide +kernel
theorem dX7_request_32 : decode cX7_request 32 = .ok (.iload_n 2, 1) := by decide +kernel
theorem dX7_request_33 : decode cX7_request 33 = .ok (.if_icmp .ne 5, 3) := by decide +kernel
theorem dX7_request_36 : decode cX7_request 36 = .ok (.iconst (-1), 1) := by decide +kernel
theorem dX7_request_37 : decode cX7_request 37 = .ok (.ireturn, 1) := by decide +kernel
theorem dX7_request_38 : decode cX7_request 38 = .ok (.iload_n 3, 1) := by decide +kernel
theorem dX7_request_39 : decode cX7_request 39 = .ok (.iconst 0, 1) := by decide +kernel
theorem dX7_request_40 : decode cX7_request 40 = .ok (.bipush 9, 2) := by decide +kernel
theorem dX7_request_42 : decode cX7_request 42 = .ok (.invokestatic 86, 3) := by decide +kernel
theorem dX7_request_45 : decode cX7_request 45 = .ok (.ifCond .eq 27, 3) := by decide +kernel
theorem dX7_request_48 : decode cX7_request 48 = .ok (.iload 4, 2) := by decide +kernel
theorem dX7_request_50 : decode cX7_request 50 = .ok (.iconst 1, 1) := by decide +kernel
theorem dX7_request_51 : decode cX7_request 51 = .ok (.sipush 2000, 3) := by decide +kernel
theorem dX7_request_54 : decode cX7_request 54 = .ok (.invokestatic 86, 3) := by decide +kernel
theorem dX7_request_57 : decode cX7_request 57 = .ok (.ifCond .eq 15, 3) := by decide +kernel
theorem dX7_request_60 : decode cX7_request 60 = .ok (.iload 5, 2) := by decide +kernel
theorem dX7_request_62 : decode cX7_request 62 = .ok (.iconst 1, 1) := by decide +kernel
theorem dX7_request_63 : decode cX7_request 63 = .ok (.sipush 9999, 3) := by decide +kernel
theorem dX7_request_66 : decode cX7_request 66 = .ok (.invokestatic 86, 3) := by decide +kernel
theorem dX7_request_69 : decode cX7_request 69 = .ok (.ifCond .ne 6, 3) := by decide +kernel
theorem dX7_request_72 : decode cX7_request 72 = .ok (.bipush (-2), 2) := by decide +kernel
theorem dX7_request_74 : decode cX7_request 74 = .ok (.ireturn, 1) := by decide +kernel
theorem dX7_request_75 : decode cX7_request 75 = .ok (.aload_n 0, 1) := by decide +kernel
theorem dX7_request_76 : decode cX7_request 76 = .ok (.getfield 10, 3) := by decide +kernel
theorem dX7_request_79 : decode cX7_request 79 = .ok (.getfield 74, 3) := by decide +kernel
theorem dX7_request_82 : decode cX7_request 82 = .ok (.bipush 16, 2) := by decide +kernel
theorem dX7_request_84 : decode cX7_request 84 = .ok (.if_icmp .lt 6, 3) := by decide +kernel
theorem dX7_request_87 : decode cX7_request 87 = .ok (.bipush (-3), 2) := by decide +kernel
theorem dX7_request_89 : decode cX7_request 89 = .ok (.ireturn, 1) := by decide +kernel
theorem dX7_request_90 : decode cX7_request 90 = .ok (.aload_n 0, 1) := by decide +kernel
theorem dX7_request_91 : decode cX7_request 91 = .ok (.getfield 29, 3) := by decide +kernel
theorem dX7_request_94 : decode cX7_request 94 = .ok (.aload_n 0, 1) := by decide +kernel
theorem dX7_request_95 : decode cX7_request 95 = .ok (.getfield 10, 3) := by decide +kernel
theorem dX7_request_98 : decode cX7_request 98 = .ok (.invokevirtual 245, 3) := by decide +kernel
theorem dX7_request_101 : decode cX7_request 101 = .ok (.aload_n 0, 1) := by decide +kernel
theorem dX7_request_102 : decode cX7_request 102 = .ok (.getfield 10, 3) := by decide +kernel
theorem dX7_request_105 : decode cX7_request 105 = .ok (.getfield 74, 3) := by decide +kernel
theorem dX7_request_108 : decode cX7_request 108 = .ok (.istore 7, 2) := by decide +kernel
theorem dX7_request_110 : decode cX7_request 110 = .ok (.aload_n 0, 1) := by decide +kernel
theorem dX7_request_111 : decode cX7_request 111 = .ok (.getfield 10, 3) := by decide +kernel
theorem dX7_request_114 : decode cX7_request 114 = .ok (.iload_n 1, 1) := by decide +kernel
theorem dX7_request_115 : decode cX7_request 115 = .ok (.iload_n 2, 1) := by decide +kernel
theorem dX7_request_116 : decode cX7_request 116 = .ok (.iload_n 3, 1) := by decide +kernel
theorem dX7_request_117 : decode cX7_request 117 = .ok (.iload 4, 2) := by decide +kernel
theorem dX7_request_119 : decode cX7_request 119 = .ok (.iload 5, 2) := by decide +kernel
theorem dX7_request_121 : decode cX7_request 121 = .ok (.invokevirtual 248, 3) := by decide +kernel
theorem dX7_request_124 : decode cX7_request 124 = .ok (.iload 7, 2) := by decide +kernel
theorem dX7_request_126 : decode cX7_request 126 = .ok (.ireturn, 1) := by decide +kernel
theorem dX7_release_0 : decode cX7_release 0 = .ok (.iload_n 1, 1) := by decide +kernel
theorem dX7_release_1 : decode cX7_release 1 = .ok (.iconst 0, 1) := by decide +kernel
theorem dX7_release_2 : decode cX7_release 2 = .ok (.aload_n 0, 1) := by decide +kernel
theorem dX7_release_3 : decode cX7_release 3 = .ok (.getfield 10, 3) := by decide +kernel
theorem dX7_release_6 : decode cX7_release 6 = .ok (.getfield 74, 3) := by decide +kernel
theorem dX7_release_9 : decode cX7_release 9 = .ok (.iconst 1, 1) := by decide +kernel
theorem dX7_release_10 : decode cX7_release 10 = .ok (.isub, 1) := by decide +kernel
theorem dX7_release_11 : decode cX7_release 11 = .ok (.invokestatic 86, 3) := by decide +kernel
theorem dX7_release_14 : decode cX7_release 14 = .ok (.ifCond .eq 19, 3) := by decide +kernel
theorem dX7_release_17 : decode cX7_release 17 = .ok (.aload_n 0, 1) := by decide +kernel
theorem dX7_release_18 : decode cX7_release 18 = .ok (.getfield 10, 3) := by decide +kernel
theorem dX7_release_21 : decode cX7_release 21 = .ok (.getfield 118, 3) := by decide +kernel
theorem dX7_release_24 : decode cX7_release 24 = .ok (.iload_n 1, 1) := by decide +kernel
theorem dX7_release_25 : decode cX7_release 25 = .ok (.aaload, 1) := by decide +kernel
theorem dX7_release_26 : decode cX7_release 26 = .ok (.getfield 122, 3) := by decide +kernel
theorem dX7_release_29 : decode cX7_release 29 = .ok (.iconst 2, 1) := by decide +kernel
theorem dX7_release_30 : decode cX7_release 30 = .ok (.if_icmp .ne 5, 3) := by decide +kernel
theorem dX7_release_33 : decode cX7_release 33 = .ok (.iconst (-1), 1) := by decide +kernel
theorem dX7_release_34 : decode cX7_release 34 = .ok (.ireturn, 1) := by decide +kernel
theorem dX7_release_35 : decode cX7_release 35 = .ok (.aload_n 0, 1) := by decide +kernel
theorem dX7_release_36 : decode cX7_release 36 = .ok (.getfield 29, 3) := by decide +kernel
theorem dX7_release_39 : decode cX7_release 39 = .ok (.aload_n 0, 1) := by decide +kernel
theorem dX7_release_40 : decode cX7_release 40 = .ok (.getfield 10, 3) := by decide +kernel
theorem dX7_release_43 : decode cX7_release 43 = .ok (.invokevirtual 245, 3) := by decide +kernel
theorem dX7_release_46 : decode cX7_release 46 = .ok (.aload_n 0, 1) := by decide +kernel
theorem dX7_release_47 : decode cX7_release 47 = .ok (.getfield 10, 3) := by decide +kernel
theorem dX7_release_50 : decode cX7_release 50 = .ok (.getfield 118, 3) := by decide +kernel
theorem dX7_release_53 : decode cX7_release 53 = .ok (.iload_n 1, 1) := by decide +kernel
theorem dX7_release_54 : decode cX7_release 54 = .ok (.aaload, 1) := by decide +kernel
theorem dX7_release_55 : decode cX7_release 55 = .ok (.iconst 2, 1) := by decide +kernel
theorem dX7_release_56 : decode cX7_release 56 = .ok (.putfield 122, 3) := by decide +kernel
theorem dX7_release_59 : decode cX7_release 59 = .ok (.aload_n 0, 1) := by decide +kernel
theorem dX7_release_60 : decode cX7_release 60 = .ok (.getfield 10, 3) := by decide +kernel
theorem dX7_release_63 : decode cX7_release 63 = .ok (.aload_n 0, 1) := by decide +kernel
theorem dX7_release_64 : decode cX7_release 64 = .ok (.getfield 10, 3) := by decide +kernel
theorem dX7_release_67 : decode cX7_release 67 = .ok (.iconst 0, 1) := by decide +kernel
theorem dX7_release_68 : decode cX7_release 68 = .ok (.invokevirtual 194, 3) := by decide +kernel
theorem dX7_release_71 : decode cX7_release 71 = .ok (.invokevirtual 252, 3) := by decide +kernel
theorem dX7_release_74 : decode cX7_release 74 = .ok (.ireturn, 1) := by decide +kernel
theorem dX7_advance_0 : decode cX7_advance 0 = .ok (.iload_n 1, 1) := by decide +kernel
theorem dX7_advance_1 : decode cX7_advance 1 = .ok (.iconst 1, 1) := by decide +kernel
theorem dX7_advance_2 : decode cX7_advance 2 = .ok (.sipush 200, 3) := by decide +kernel
theorem dX7_advance_5 : decode cX7_advance 5 = .ok (.invokestatic 86, 3) := by decide +kernel
theorem dX7_advance_8 : decode cX7_advance 8 = .ok (.ifCond .ne 6, 3) := by decide +kernel
theorem dX7_advance_11 : decode cX7_advance 11 = .ok (.bipush (-2), 2) := by decide +kernel
theorem dX7_advance_13 : decode cX7_advance 13 = .ok (.ireturn, 1) := by decide +kernel
theorem dX7_advance_14 : decode cX7_advance 14 = .ok (.aload_n 0, 1) := by decide +kernel
theorem dX7_advance_15 : decode cX7_advance 15 = .ok (.getfield 10, 3) := by decide +kernel
theorem dX7_advance_18 : decode cX7_advance 18 = .ok (.getfield 83, 3) := by decide +kernel
theorem dX7_advance_21 : decode cX7_advance 21 = .ok (.iload_n 1, 1) := by decide +kernel
theorem dX7_advance_22 : decode cX7_advance 22 = .ok (.iadd, 1) := by decide +kernel
theorem dX7_advance_23 : decode cX7_advance 23 = .ok (.sipush 9999, 3) := by decide +kernel
theorem dX7_advance_26 : decode cX7_advance 26 = .ok (.if_icmp .le 6, 3) := by decide +kernel
theorem dX7_advance_29 : decode cX7_advance 29 = .ok (.bipush (-3), 2) := by decide +kernel
theorem dX7_advance_31 : decode cX7_advance 31 = .ok (.ireturn, 1) := by decide +kernel
theorem dX7_advance_32 : decode cX7_advance 32 = .ok (.aload_n 0, 1) := by decide +kernel
theorem dX7_advance_33 : decode cX7_advance 33 = .ok (.getfield 29, 3) := by decide +kernel
theorem dX7_advance_36 : decode cX7_advance 36 = .ok (.aload_n 0, 1) := by decide +kernel
theorem dX7_advance_37 : decode cX7_advance 37 = .ok (.getfield 10, 3) := by decide +kernel
theorem dX7_advance_40 : decode cX7_advance 40 = .ok (.invokevirtual 245, 3) := by decide +kernel
theorem dX7_advance_43 : decode cX7_advance 43 = .ok (.iconst 0, 1) := by decide +kernel
theorem dX7_advance_44 : decode cX7_advance 44 = .ok (.istore_n 2, 1) := by decide +kernel
theorem dX7_advance_45 : decode cX7_advance 45 = .ok (.iload_n 2, 1) := by decide +kernel
theorem dX7_advance_46 : decode cX7_advance 46 = .ok (.iload_n 1, 1) := by decide +kernel
theorem dX7_advance_47 : decode cX7_advance 47 = .ok (.if_icmp .ge 16, 3) := by decide +kernel
theorem dX7_advance_50 : decode cX7_advance 50 = .ok (.aload_n 0, 1) := by decide +kernel
theorem dX7_advance_51 : decode cX7_advance 51 = .ok (.getfield 10, 3) := by decide +kernel
theorem dX7_advance_54 : decode cX7_advance 54 = .ok (.invokevirtual 255, 3) := by decide +kernel
theorem dX7_advance_57 : decode cX7_advance 57 = .ok (.iinc 2 1, 3) := by decide +kernel
theorem dX7_advance_60 : decode cX7_advance 60 = .ok (.goto (-15), 3) := by decide +kernel
theorem dX7_advance_63 : decode cX7_advance 63 = .ok (.aload_n 0, 1) := by decide +kernel
theorem dX7_advance_64 : decode cX7_advance 64 = .ok (.getfield 10, 3) := by decide +kernel
theorem dX7_advance_67 : decode cX7_advance 67 = .ok (.getfield 83, 3) := by decide +kernel
theorem dX7_advance_70 : decode cX7_advance 70 = .ok (.ireturn, 1) := by decide +kernel
theorem dX7_setSetting_0 : decode cX7_setSetting 0 = .ok (.iload_n 1, 1) := by decide +kernel
theorem dX7_setSetting_1 : decode cX7_setSetting 1 = .ok (.iconst 4, 1) := by decide +kernel
theorem dX7_setSetting_2 : decode cX7_setSetting 2 = .ok (.bipush 6, 2) := by decide +kernel
theorem dX7_setSetting_4 : decode cX7_setSetting 4 = .ok (.invokestatic 86, 3) := by decide +kernel
theorem dX7_setSetting_7 : decode cX7_setSetting 7 = .ok (.ifCond .eq 20, 3) := by decide +kernel
theorem dX7_setSetting_10 : decode cX7_setSetting 10 = .ok (.iload_n 2, 1) := by decide +kernel
theorem dX7_setSetting_11 : decode cX7_setSetting 11 = .ok (.getstatic 258, 3) := by decide +kernel
theorem dX7_setSetting_14 : decode cX7_setSetting 14 = .ok (.iload_n 1, 1) := by decide +kernel
theorem dX7_setSetting_15 : decode cX7_setSetting 15 = .ok (.iaload, 1) := by decide +kernel
theorem dX7_setSetting_16 : decode cX7_setSetting 16 = .ok (.getstatic 261, 3) := by decide +kernel
theorem dX7_setSetting_19 : decode cX7_setSetting 19 = .ok (.iload_n 1, 1) := by decide +kernel
theorem dX7_setSetting_20 : decode cX7_setSetting 20 = .ok (.iaload, 1) := by decide +kernel
theorem dX7_setSetting_21 : decode cX7_setSetting 21 = .ok (.invokestatic 86, 3) := by decide +kernel
theorem dX7_setSetting_24 : decode cX7_setSetting 24 = .ok (.ifCond .ne 6, 3) := by decide +kernel
theorem dX7_setSetting_27 : decode cX7_setSetting 27 = .ok (.bipush (-2), 2) := by decide +kernel
theorem dX7_setSetting_29 : decode cX7_setSetting 29 = .ok (.ireturn, 1) := by decide +kernel
theorem dX7_setSetting_30 : decode cX7_setSetting 30 = .ok (.aload_n 0, 1) := by decide +kernel
theorem dX7_setSetting_31 : decode cX7_setSetting 31 = .ok (.getfield 29, 3) := by decide +kernel
theorem dX7_setSetting_34 : decode cX7_setSetting 34 = .ok (.aload_n 0, 1) := by decide +kernel
theorem dX7_setSetting_35 : decode cX7_setSetting 35 = .ok (.getfield 10, 3) := by decide +kernel
theorem dX7_setSetting_38 : decode cX7_setSetting 38 = .ok (.invokevirtual 245, 3) := by decide +kernel
theorem dX7_setSetting_41 : decode cX7_setSetting 41 = .ok (.aload_n 0, 1) := by decide +kernel
theorem dX7_setSetting_42 : decode cX7_setSetting 42 = .ok (.getfield 10, 3) := by decide +kernel
theorem dX7_setSetting_45 : decode cX7_setSetting 45 = .ok (.getfield 90, 3) := by decide +kernel
theorem dX7_setSetting_48 : decode cX7_setSetting 48 = .ok (.iload_n 1, 1) := by decide +kernel
theorem dX7_setSetting_49 : decode cX7_setSetting 49 = .ok (.iaload, 1) := by decide +kernel
theorem dX7_setSetting_50 : decode cX7_setSetting 50 = .ok (.istore_n 3, 1) := by decide +kernel
theorem dX7_setSetting_51 : decode cX7_setSetting 51 = .ok (.aload_n 0, 1) := by decide +kernel
theorem dX7_setSetting_52 : decode cX7_setSetting 52 = .ok (.getfield 10, 3) := by decide +kernel
theorem dX7_setSetting_55 : decode cX7_setSetting 55 = .ok (.getfield 90, 3) := by decide +kernel
theorem dX7_setSetting_58 : decode cX7_setSetting 58 = .ok (.iload_n 1, 1) := by decide +kernel
theorem dX7_setSetting_59 : decode cX7_setSetting 59 = .ok (.iload_n 2, 1) := by decide +kernel
theorem dX7_setSetting_60 : decode cX7_setSetting 60 = .ok (.iastore, 1) := by decide +kernel
theorem dX7_setSetting_61 : decode cX7_setSetting 61 = .ok (.iload_n 3, 1) := by decide +kernel
theorem dX7_setSetting_62 : decode cX7_setSetting 62 = .ok (.ireturn, 1) := by decide +kernel
theorem dX7_acquire_0 : decode cX7_acquire 0 = .ok (.iload_n 1, 1) := by decide +kernel
theorem dX7_acquire_1 : decode cX7_acquire 1 = .ok (.iconst 0, 1) := by decide +kernel
theorem dX7_acquire_2 : decode cX7_acquire 2 = .ok (.aload_n 0, 1) := by decide +kernel
theorem dX7_acquire_3 : decode cX7_acquire 3 = .ok (.getfield 10, 3) := by decide +kernel
theorem dX7_acquire_6 : decode cX7_acquire 6 = .ok (.getfield 71, 3) := by decide +kernel
theorem dX7_acquire_9 : decode cX7_acquire 9 = .ok (.iconst 1, 1) := by decide +kernel
theorem dX7_acquire_10 : decode cX7_acquire 10 = .ok (.isub, 1) := by decide +kernel
theorem dX7_acquire_11 : decode cX7_acquire 11 = .ok (.invokestatic 86, 3) := by decide +kernel
theorem dX7_acquire_14 : decode cX7_acquire 14 = .ok (.ifCond .ne 5, 3) := by decide +kernel
theorem dX7_acquire_17 : decode cX7_acquire 17 = .ok (.iconst 0, 1) := by decide +kernel
theorem dX7_acquire_18 : decode cX7_acquire 18 = .ok (.ireturn, 1) := by decide +kernel
theorem dX7_acquire_19 : decode cX7_acquire 19 = .ok (.aload_n 0, 1) := by decide +kernel
theorem dX7_acquire_20 : decode cX7_acquire 20 = .ok (.getfield 29, 3) := by decide +kernel
theorem dX7_acquire_23 : decode cX7_acquire 23 = .ok (.aload_n 0, 1) := by decide +kernel
theorem dX7_acquire_24 : decode cX7_acquire 24 = .ok (.getfield 10, 3) := by decide +kernel
theorem dX7_acquire_27 : decode cX7_acquire 27 = .ok (.invokevirtual 245, 3) := by decide +kernel
theorem dX7_acquire_30 : decode cX7_acquire 30 = .ok (.aload_n 0, 1) := by decide +kernel
theorem dX7_acquire_31 : decode cX7_acquire 31 = .ok (.getfield 10, 3) := by decide +kernel
theorem dX7_acquire_34 : decode cX7_acquire 34 = .ok (.getfield 165, 3) := by decide +kernel
theorem dX7_acquire_37 : decode cX7_acquire 37 = .ok (.iload_n 1, 1) := by decide +kernel
theorem dX7_acquire_38 : decode cX7_acquire 38 = .ok (.aaload, 1) := by decide +kernel
theorem dX7_acquire_39 : decode cX7_acquire 39 = .ok (.invokevirtual 264, 3) := by decide +kernel
theorem dX7_acquire_42 : decode cX7_acquire 42 = .ok (.iconst 1, 1) := by decide +kernel
theorem dX7_acquire_43 : decode cX7_acquire 43 = .ok (.ireturn, 1) := by decide +kernel
theorem dX7_compact_0 : decode cX7_compact 0 = .ok (.aload_n 0, 1) := by decide +kernel
theorem dX7_compact_1 : decode cX7_compact 1 = .ok (.getfield 10, 3) := by decide +kernel
theorem dX7_compact_4 : decode cX7_compact 4 = .ok (.iconst 1, 1) := by decide +kernel
theorem dX7_compact_5 : decode cX7_compact 5 = .ok (.invokevirtual 194, 3) := by decide +kernel
theorem dX7_compact_8 : decode cX7_compact 8 = .ok (.istore_n 1, 1) := by decide +kernel
theorem dX7_compact_9 : decode cX7_compact 9 = .ok (.aload_n 0, 1) := by decide +kernel
theorem dX7_compact_10 : decode cX7_compact 10 = .ok (.getfield 16, 3) := by decide +kernel
theorem dX7_compact_13 : decode cX7_compact 13 = .ok (.aload_n 0, 1) := by decide +kernel
theorem dX7_compact_14 : decode cX7_compact 14 = .ok (.getfield 10, 3) := by decide +kernel
theorem dX7_compact_17 : decode cX7_compact 17 = .ok (.invokevirtual 61, 3) := by decide +kernel
theorem dX7_compact_20 : decode cX7_compact 20 = .ok (.aload_n 0, 1) := by decide +kernel
theorem dX7_compact_21 : decode cX7_compact 21 = .ok (.getfield 16, 3) := by decide +kernel
theorem dX7_compact_24 : decode cX7_compact 24 = .ok (.iload_n 1, 1) := by decide +kernel
theorem dX7_compact_25 : decode cX7_compact 25 = .ok (.invokevirtual 242, 3) := by decide +kernel
theorem dX7_compact_28 : decode cX7_compact 28 = .ok (.ifCond .ne 6, 3) := by decide +kernel
theorem dX7_compact_31 : decode cX7_compact 31 = .ok (.bipush (-3), 2) := by decide +kernel
theorem dX7_compact_33 : decode cX7_compact 33 = .ok (.ireturn, 1) := by decide +kernel
theorem dX7_compact_34 : decode cX7_compact 34 = .ok (.aload_n 0, 1) := by decide +kernel
theorem dX7_compact_35 : decode cX7_compact 35 = .ok (.getfield 16, 3) := by decide +kernel
theorem dX7_compact_38 : decode cX7_compact 38 = .ok (.aload_n 0, 1) := by decide +kernel
theorem dX7_compact_39 : decode cX7_compact 39 = .ok (.getfield 16, 3) := by decide +kernel
theorem dX7_compact_42 : decode cX7_compact 42 = .ok (.iconst 0, 1) := by decide +kernel
theorem dX7_compact_43 : decode cX7_compact 43 = .ok (.invokevirtual 194, 3) := by decide +kernel
theorem dX7_compact_46 : decode cX7_compact 46 = .ok (.invokevirtual 252, 3) := by decide +kernel
theorem dX7_compact_49 : decode cX7_compact 49 = .ok (.pop, 1) := by decide +kernel
theorem dX7_compact_50 : decode cX7_compact 50 = .ok (.iconst 0, 1) := by decide +kernel
theorem dX7_compact_51 : decode cX7_compact 51 = .ok (.istore_n 2, 1) := by decide +kernel
theorem dX7_compact_52 : decode cX7_compact 52 = .ok (.iconst 0, 1) := by decide +kernel
theorem dX7_compact_53 : decode cX7_compact 53 = .ok (.istore_n 3, 1) := by decide +kernel
theorem dX7_compact_54 : decode cX7_compact 54 = .ok (.iload_n 3, 1) := by decide +kernel
theorem dX7_compact_55 : decode cX7_compact 55 = .ok (.aload_n 0, 1) := by decide +kernel
theorem dX7_compact_56 : decode cX7_compact 56 = .ok (.getfield 10, 3) := by decide +kernel
theorem dX7_compact_59 : decode cX7_compact 59 = .ok (.getfield 74, 3) := by decide +kernel
theorem dX7_compact_62 : decode cX7_compact 62 = .ok (.if_icmp .ge 52, 3) := by decide +kernel
theorem dX7_compact_65 : decode cX7_compact 65 = .ok (.aload_n 0, 1) := by decide +kernel
theorem dX7_compact_66 : decode cX7_compact 66 = .ok (.getfield 10, 3) := by decide +kernel
theorem dX7_compact_69 : decode cX7_compact 69 = .ok (.getfield 118, 3) := by decide +kernel
theorem dX7_compact_72 : decode cX7_compact 72 = .ok (.iload_n 3, 1) := by decide +kernel
theorem dX7_compact_73 : decode cX7_compact 73 = .ok (.aaload, 1) := by decide +kernel
theorem dX7_compact_74 : decode cX7_compact 74 = .ok (.getfield 122, 3) := by decide +kernel
theorem dX7_compact_77 : decode cX7_compact 77 = .ok (.iconst 1, 1) := by decide +kernel
theorem dX7_compact_78 : decode cX7_compact 78 = .ok (.if_icmp .ne 30, 3) := by decide +kernel
theorem dX7_compact_81 : decode cX7_compact 81 = .ok (.aload_n 0, 1) := by decide +kernel
theorem dX7_compact_82 : decode cX7_compact 82 = .ok (.getfield 10, 3) := by decide +kernel
theorem dX7_compact_85 : decode cX7_compact 85 = .ok (.getfield 118, 3) := by decide +kernel
theorem dX7_compact_88 : decode cX7_compact 88 = .ok (.iload_n 3, 1) := by decide +kernel
theorem dX7_compact_89 : decode cX7_compact 89 = .ok (.aaload, 1) := by decide +kernel
theorem dX7_compact_90 : decode cX7_compact 90 = .ok (.aload_n 0, 1) := by decide +kernel
theorem dX7_compact_91 : decode cX7_compact 91 = .ok (.getfield 16, 3) := by decide +kernel
theorem dX7_compact_94 : decode cX7_compact 94 = .ok (.getfield 118, 3) := by decide +kernel
theorem dX7_compact_97 : decode cX7_compact 97 = .ok (.iload_n 3, 1) := by decide +kernel
theorem dX7_compact_98 : decode cX7_compact 98 = .ok (.aaload, 1) := by decide +kernel
theorem dX7_compact_99 : decode cX7_compact 99 = .ok (.invokevirtual 267, 3) := by decide +kernel
theorem dX7_compact_102 : decode cX7_compact 102 = .ok (.ifCond .ne 6, 3) := by decide +kernel
theorem dX7_compact_105 : decode cX7_compact 105 = .ok (.iinc 2 1, 3) := by decide +kernel
theorem dX7_compact_108 : decode cX7_compact 108 = .ok (.iinc 3 1, 3) := by decide +kernel
theorem dX7_compact_111 : decode cX7_compact 111 = .ok (.goto (-57), 3) := by decide +kernel
theorem dX7_compact_114 : decode cX7_compact 114 = .ok (.aload_n 0, 1) := by decide +kernel
theorem dX7_compact_115 : decode cX7_compact 115 = .ok (.getfield 29, 3) := by decide +kernel
theorem dX7_compact_118 : decode cX7_compact 118 = .ok (.aload_n 0, 1) := by decide +kernel
theorem dX7_compact_119 : decode cX7_compact 119 = .ok (.getfield 10, 3) := by decide +kernel
theorem dX7_compact_122 : decode cX7_compact 122 = .ok (.invokevirtual 245, 3) := by decide +kernel
theorem dX7_compact_125 : decode cX7_compact 125 = .ok (.aload_n 0, 1) := by decide +kernel
theorem dX7_compact_126 : decode cX7_compact 126 = .ok (.getfield 10, 3) := by decide +kernel
theorem dX7_compact_129 : decode cX7_compact 129 = .ok (.aload_n 0, 1) := by decide +kernel
theorem dX7_compact_130 : decode cX7_compact 130 = .ok (.getfield 16, 3) := by decide +kernel
theorem dX7_compact_133 : decode cX7_compact 133 = .ok (.invokevirtual 61, 3) := by decide +kernel
theorem dX7_compact_136 : decode cX7_compact 136 = .ok (.iload_n 2, 1) := by decide +kernel
theorem dX7_compact_137 : decode cX7_compact 137 = .ok (.ireturn, 1) := by decide +kernel
theorem dX7_undo_0 : decode cX7_undo 0 = .ok (.aload_n 0, 1) := by decide +kernel
theorem dX7_undo_1 : decode cX7_undo 1 = .ok (.getfield 29, 3) := by decide +kernel
theorem dX7_undo_4 : decode cX7_undo 4 = .ok (.aload_n 0, 1) := by decide +kernel
theorem dX7_undo_5 : decode cX7_undo 5 = .ok (.getfield 10, 3) := by decide +kernel
theorem dX7_undo_8 : decode cX7_undo 8 = .ok (.invokevirtual 271, 3) := by decide +kernel
theorem dX7_undo_11 : decode cX7_undo 11 = .ok (.ifCond .eq 13, 3) := by decide +kernel
theorem dX7_undo_14 : decode cX7_undo 14 = .ok (.aload_n 0, 1) := by decide +kernel
theorem dX7_undo_15 : decode cX7_undo 15 = .ok (.getfield 29, 3) := by decide +kernel
theorem dX7_undo_18 : decode cX7_undo 18 = .ok (.getfield 65, 3) := by decide +kernel
theorem dX7_undo_21 : decode cX7_undo 21 = .ok (.goto 4, 3) := by decide +kernel
theorem dX7_undo_24 : decode cX7_undo 24 = .ok (.iconst (-1), 1) := by decide +kernel
theorem dX7_undo_25 : decode cX7_undo 25 = .ok (.ireturn, 1) := by decide +kernel
theorem dX7_checkedStation_0 : decode cX7_checkedStation 0 = .ok (.iload_n 1, 1) := by decide +kernel
theorem dX7_checkedStation_1 : decode cX7_checkedStation 1 = .ok (.iconst 0, 1) := by decide +kernel
theorem dX7_checkedStation_2 : decode cX7_checkedStation 2 = .ok (.aload_n 0, 1) := by decide +kernel
theorem dX7_checkedStation_3 : decode cX7_checkedStation 3 = .ok (.getfield 10, 3) := by decide +kernel
theorem dX7_checkedStation_6 : decode cX7_checkedStation 6 = .ok (.getfield 71, 3) := by decide +kernel
theorem dX7_checkedStation_9 : decode cX7_checkedStation 9 = .ok (.iconst 1, 1) := by decide +kernel
theorem dX7_checkedStation_10 : decode cX7_checkedStation 10 = .ok (.isub, 1) := by decide +kernel
theorem dX7_checkedStation_11 : decode cX7_checkedStation 11 = .ok (.invokestatic 86, 3) := by decide +kernel
theorem dX7_checkedStation_14 : decode cX7_checkedStation 14 = .ok (.ifCond .ne 14, 3) := by decide +kernel
theorem dX7_checkedStation_17 : decode cX7_checkedStation 17 = .ok (.new 275, 3) := by decide +kernel
theorem dX7_checkedStation_20 : decode cX7_checkedStation 20 = .ok (.dup, 1) := by decide +kernel
theorem dX7_checkedStation_21 : decode cX7_checkedStation 21 = .ok (.ldc_w 277, 3) := by decide +kernel
theorem dX7_checkedStation_24 : decode cX7_checkedStation 24 = .ok (.invokespecial 279, 3) := by decide +kernel
theorem dX7_checkedStation_27 : decode cX7_checkedStation 27 = .ok (.athrow, 1) := by decide +kernel
theorem dX7_checkedStation_28 : decode cX7_checkedStation 28 = .ok (.aload_n 0, 1) := by decide +kernel
theorem dX7_checkedStation_29 : decode cX7_checkedStation 29 = .ok (.getfield 10, 3) := by decide +kernel
theorem dX7_checkedStation_32 : decode cX7_checkedStation 32 = .ok (.getfield 165, 3) := by decide +kernel
theorem dX7_checkedStation_35 : decode cX7_checkedStation 35 = .ok (.iload_n 1, 1) := by decide +kernel
theorem dX7_checkedStation_36 : decode cX7_checkedStation 36 = .ok (.aaload, 1) := by decide +kernel
theorem dX7_checkedStation_37 : decode cX7_checkedStation 37 = .ok (.areturn, 1) := by decide +kernel
theorem dX7_checkedCall_0 : decode cX7_checkedCall 0 = .ok (.iload_n 1, 1) := by decide +kernel
theorem dX7_checkedCall_1 : decode cX7_checkedCall 1 = .ok (.iconst 0, 1) := by decide +kernel
theorem dX7_checkedCall_2 : decode cX7_checkedCall 2 = .ok (.aload_n 0, 1) := by decide +kernel
theorem dX7_checkedCall_3 : decode cX7_checkedCall 3 = .ok (.getfield 10, 3) := by decide +kernel
theorem dX7_checkedCall_6 : decode cX7_checkedCall 6 = .ok (.getfield 74, 3) := by decide +kernel
theorem dX7_checkedCall_9 : decode cX7_checkedCall 9 = .ok (.iconst 1, 1) := by decide +kernel
theorem dX7_checkedCall_10 : decode cX7_checkedCall 10 = .ok (.isub, 1) := by decide +kernel
theorem dX7_checkedCall_11 : decode cX7_checkedCall 11 = .ok (.invokestatic 86, 3) := by decide +kernel
theorem dX7_checkedCall_14 : decode cX7_checkedCall 14 = .ok (.ifCond .ne 14, 3) := by decide +kernel
theorem dX7_checkedCall_17 : decode cX7_checkedCall 17 = .ok (.new 275, 3) := by decide +kernel
theorem dX7_checkedCall_20 : decode cX7_checkedCall 20 = .ok (.dup, 1) := by decide +kernel
theorem dX7_checkedCall_21 : decode cX7_checkedCall 21 = .ok (.ldc_w 282, 3) := by decide +kernel
theorem dX7_checkedCall_24 : decode cX7_checkedCall 24 = .ok (.invokespecial 279, 3) := by decide +kernel
theorem dX7_checkedCall_27 : decode cX7_checkedCall 27 = .ok (.athrow, 1) := by decide +kernel
theorem dX7_checkedCall_28 : decode cX7_checkedCall 28 = .ok (.aload_n 0, 1) := by decide +kernel
theorem dX7_checkedCall_29 : decode cX7_checkedCall 29 = .ok (.getfield 10, 3) := by decide +kernel
theorem dX7_checkedCall_32 : decode cX7_checkedCall 32 = .ok (.getfield 118, 3) := by decide +kernel
theorem dX7_checkedCall_35 : decode cX7_checkedCall 35 = .ok (.iload_n 1, 1) := by decide +kernel
theorem dX7_checkedCall_36 : decode cX7_checkedCall 36 = .ok (.aaload, 1) := by decide +kernel
theorem dX7_checkedCall_37 : decode cX7_checkedCall 37 = .ok (.areturn, 1) := by decide +kernel
theorem dX7_checkCarrier_0 : decode cX7_checkCarrier 0 = .ok (.iload_n 1, 1) := by decide +kernel
theorem dX7_checkCarrier_1 : decode cX7_checkCarrier 1 = .ok (.iconst 0, 1) := by decide +kernel
theorem dX7_checkCarrier_2 : decode cX7_checkCarrier 2 = .ok (.aload_n 0, 1) := by decide +kernel
theorem dX7_checkCarrier_3 : decode cX7_checkCarrier 3 = .ok (.getfield 10, 3) := by decide +kernel
theorem dX7_checkCarrier_6 : decode cX7_checkCarrier 6 = .ok (.getfield 77, 3) := by decide +kernel
theorem dX7_checkCarrier_9 : decode cX7_checkCarrier 9 = .ok (.iconst 1, 1) := by decide +kernel
theorem dX7_checkCarrier_10 : decode cX7_checkCarrier 10 = .ok (.isub, 1) := by decide +kernel
theorem dX7_checkCarrier_11 : decode cX7_checkCarrier 11 = .ok (.invokestatic 86, 3) := by decide +kernel
theorem dX7_checkCarrier_14 : decode cX7_checkCarrier 14 = .ok (.ifCond .ne 14, 3) := by decide +kernel
theorem dX7_checkCarrier_17 : decode cX7_checkCarrier 17 = .ok (.new 275, 3) := by decide +kernel
theorem dX7_checkCarrier_20 : decode cX7_checkCarrier 20 = .ok (.dup, 1) := by decide +kernel
theorem dX7_checkCarrier_21 : decode cX7_checkCarrier 21 = .ok (.ldc_w 284, 3) := by decide +kernel
theorem dX7_checkCarrier_24 : decode cX7_checkCarrier 24 = .ok (.invokespecial 279, 3) := by decide +kernel
theorem dX7_checkCarrier_27 : decode cX7_checkCarrier 27 = .ok (.athrow, 1) := by decide +kernel
theorem dX7_checkCarrier_28 : decode cX7_checkCarrier 28 = .ok (.return_, 1) := by decide +kernel
theorem dX7_inRange_0 : decode cX7_inRange 0 = .ok (.iload_n 0, 1) := by decide +kernel
theorem dX7_inRange_1 : decode cX7_inRange 1 = .ok (.iload_n 1, 1) := by decide +kernel
theorem dX7_inRange_2 : decode cX7_inRange 2 = .ok (.if_icmp .lt 12, 3) := by decide +kernel
theorem dX7_inRange_5 : decode cX7_inRange 5 = .ok (.iload_n 0, 1) := by decide +kernel
theorem dX7_inRange_6 : decode cX7_inRange 6 = .ok (.iload_n 2, 1) := by decide +kernel
theorem dX7_inRange_7 : decode cX7_inRange 7 = .ok (.if_icmp .gt 7, 3) := by decide +kernel
theorem dX7_inRange_10 : decode cX7_inRange 10 = .ok (.iconst 1, 1) := by decide +kernel
theorem dX7_inRange_11 : decode cX7_inRange 11 = .ok (.goto 4, 3) := by decide +kernel
theorem dX7_inRange_14 : decode cX7_inRange 14 = .ok (.iconst 0, 1) := by decide +kernel
theorem dX7_inRange_15 : decode cX7_inRange 15 = .ok (.ireturn, 1) := by decide +kernel
