theorem dX7_init_0 : decode cX7_init 0 = .ok (.aload_n 0, 1) := by decide +kernel
theorem dX7_init_1 : decode cX7_init 1 = .ok (.invokespecial 1, 3) := by decide +kernel
theorem dX7_init_4 : decode cX7_init 4 = .ok (.aload_n 0, 1) := by decide +kernel
theorem dX7_init_5 : decode cX7_init 5 = .ok (.new 7, 3) := by decide +kernel
theorem dX7_init_8 : decode cX7_init 8 = .ok (.dup, 1) := by decide +kernel
theorem dX7_init_9 : decode cX7_init 9 = .ok (.invokespecial 9, 3) := by decide +kernel
theorem dX7_init_12 : decode cX7_init 12 = .ok (.putfield 10, 3) := by decide +kernel
theorem dX7_init_15 : decode cX7_init 15 = .ok (.aload_n 0, 1) := by decide +kernel
theorem dX7_init_16 : decode cX7_init 16 = .ok (.new 7, 3) := by decide +kernel
theorem dX7_init_19 : decode cX7_init 19 = .ok (.dup, 1) := by decide +kernel
theorem dX7_init_20 : decode cX7_init 20 = .ok (.invokespecial 9, 3) := by decide +kernel
theorem dX7_init_23 : decode cX7_init 23 = .ok (.putfield 16, 3) := by decide +kernel
theorem dX7_init_26 : decode cX7_init 26 = .ok (.aload_n 0, 1) := by decide +kernel
theorem dX7_init_27 : decode cX7_init 27 = .ok (.new 19, 3) := by decide +kernel
theorem dX7_init_30 : decode cX7_init 30 = .ok (.dup, 1) := by decide +kernel
theorem dX7_init_31 : decode cX7_init 31 = .ok (.invokespecial 21, 3) := by decide +kernel
theorem dX7_init_34 : decode cX7_init 34 = .ok (.putfield 22, 3) := by decide +kernel
theorem dX7_init_37 : decode cX7_init 37 = .ok (.aload_n 0, 1) := by decide +kernel
theorem dX7_init_38 : decode cX7_init 38 = .ok (.new 26, 3) := by decide +kernel
theorem dX7_init_41 : decode cX7_init 41 = .ok (.dup, 1) := by decide +kernel
theorem dX7_init_42 : decode cX7_init 42 = .ok (.invokespecial 28, 3) := by decide +kernel
theorem dX7_init_45 : decode cX7_init 45 = .ok (.putfield 29, 3) := by decide +kernel
theorem dX7_init_48 : decode cX7_init 48 = .ok (.aload_n 0, 1) := by decide +kernel
theorem dX7_init_49 : decode cX7_init 49 = .ok (.new 33, 3) := by decide +kernel
theorem dX7_init_52 : decode cX7_init 52 = .ok (.dup, 1) := by decide +kernel
theorem dX7_init_53 : decode cX7_init 53 = .ok (.invokespecial 35, 3) := by decide +kernel
theorem dX7_init_56 : decode cX7_init 56 = .ok (.putfield 36, 3) := by decide +kernel
theorem dX7_init_59 : decode cX7_init 59 = .ok (.return_, 1) := by decide +kernel
theorem dX7_feed_0 : decode cX7_feed 0 = .ok (.aload_n 0, 1) := by decide +kernel
theorem dX7_feed_1 : decode cX7_feed 1 = .ok (.getfield 36, 3) := by decide +kernel
theorem dX7_feed_4 : decode cX7_feed 4 = .ok (.iload_n 1, 1) := by decide +kernel
theorem dX7_feed_5 : decode cX7_feed 5 = .ok (.iload_n 2, 1) := by decide +kernel
theorem dX7_feed_6 : decode cX7_feed 6 = .ok (.iload_n 3, 1) := by decide +kernel
theorem dX7_feed_7 : decode cX7_feed 7 = .ok (.iload 4, 2) := by decide +kernel
theorem dX7_feed_9 : decode cX7_feed 9 = .ok (.iload 5, 2) := by decide +kernel
theorem dX7_feed_11 : decode cX7_feed 11 = .ok (.invokevirtual 40, 3) := by decide +kernel
theorem dX7_feed_14 : decode cX7_feed 14 = .ok (.ireturn, 1) := by decide +kernel
theorem dX7_load_0 : decode cX7_load 0 = .ok (.iload_n 1, 1) := by decide +kernel
theorem dX7_load_1 : decode cX7_load 1 = .ok (.ifCond .lt 17, 3) := by decide +kernel
theorem dX7_load_4 : decode cX7_load 4 = .ok (.iload_n 1, 1) := by decide +kernel
theorem dX7_load_5 : decode cX7_load 5 = .ok (.aload_n 0, 1) := by decide +kernel
theorem dX7_load_6 : decode cX7_load 6 = .ok (.getfield 36, 3) := by decide +kernel
theorem dX7_load_9 : decode cX7_load 9 = .ok (.getfield 44, 3) := by decide +kernel
theorem dX7_load_12 : decode cX7_load 12 = .ok (.getfield 48, 3) := by decide +kernel
theorem dX7_load_15 : decode cX7_load 15 = .ok (.if_icmp .le 6, 3) := by decide +kernel
theorem dX7_load_18 : decode cX7_load 18 = .ok (.bipush (-2), 2) := by decide +kernel
theorem dX7_load_20 : decode cX7_load 20 = .ok (.ireturn, 1) := by decide +kernel
theorem dX7_load_21 : decode cX7_load 21 = .ok (.aload_n 0, 1) := by decide +kernel
theorem dX7_load_22 : decode cX7_load 22 = .ok (.getfield 36, 3) := by decide +kernel
theorem dX7_load_25 : decode cX7_load 25 = .ok (.iload_n 1, 1) := by decide +kernel
theorem dX7_load_26 : decode cX7_load 26 = .ok (.invokevirtual 54, 3) := by decide +kernel
theorem dX7_load_29 : decode cX7_load 29 = .ok (.istore_n 2, 1) := by decide +kernel
theorem dX7_load_30 : decode cX7_load 30 = .ok (.iload_n 2, 1) := by decide +kernel
theorem dX7_load_31 : decode cX7_load 31 = .ok (.ifCond .lt 25, 3) := by decide +kernel
theorem dX7_load_34 : decode cX7_load 34 = .ok (.aload_n 0, 1) := by decide +kernel
theorem dX7_load_35 : decode cX7_load 35 = .ok (.getfield 10, 3) := by decide +kernel
theorem dX7_load_38 : decode cX7_load 38 = .ok (.aload_n 0, 1) := by decide +kernel
theorem dX7_load_39 : decode cX7_load 39 = .ok (.getfield 36, 3) := by decide +kernel
theorem dX7_load_42 : decode cX7_load 42 = .ok (.getfield 58, 3) := by decide +kernel
theorem dX7_load_45 : decode cX7_load 45 = .ok (.invokevirtual 61, 3) := by decide +kernel
theorem dX7_load_48 : decode cX7_load 48 = .ok (.aload_n 0, 1) := by decide +kernel
theorem dX7_load_49 : decode cX7_load 49 = .ok (.getfield 29, 3) := by decide +kernel
theorem dX7_load_52 : decode cX7_load 52 = .ok (.iconst 0, 1) := by decide +kernel
theorem dX7_load_53 : decode cX7_load 53 = .ok (.putfield 65, 3) := by decide +kernel
theorem dX7_load_56 : decode cX7_load 56 = .ok (.iload_n 2, 1) := by decide +kernel
theorem dX7_load_57 : decode cX7_load 57 = .ok (.ireturn, 1) := by decide +kernel
theorem dX7_stationCount_0 : decode cX7_stationCount 0 = .ok (.aload_n 0, 1) := by decide +kernel
theorem dX7_stationCount_1 : decode cX7_stationCount 1 = .ok (.getfield 10, 3) := by decide +kernel
theorem dX7_stationCount_4 : decode cX7_stationCount 4 = .ok (.getfield 71, 3) := by decide +kernel
theorem dX7_stationCount_7 : decode cX7_stationCount 7 = .ok (.ireturn, 1) := by decide +kernel
theorem dX7_callCount_0 : decode cX7_callCount 0 = .ok (.aload_n 0, 1) := by decide +kernel
theorem dX7_callCount_1 : decode cX7_callCount 1 = .ok (.getfield 10, 3) := by decide +kernel
theorem dX7_callCount_4 : decode cX7_callCount 4 = .ok (.getfield 74, 3) := by decide +kernel
theorem dX7_callCount_7 : decode cX7_callCount 7 = .ok (.ireturn, 1) := by decide +kernel
theorem dX7_carrierCount_0 : decode cX7_carrierCount 0 = .ok (.aload_n 0, 1) := by decide +kernel
theorem dX7_carrierCount_1 : decode cX7_carrierCount 1 = .ok (.getfield 10, 3) := by decide +kernel
theorem dX7_carrierCount_4 : decode cX7_carrierCount 4 = .ok (.getfield 77, 3) := by decide +kernel
theorem dX7_carrierCount_7 : decode cX7_carrierCount 7 = .ok (.ireturn, 1) := by decide +kernel
theorem dX7_now_0 : decode cX7_now 0 = .ok (.aload_n 0, 1) := by decide +kernel
theorem dX7_now_1 : decode cX7_now 1 = .ok (.getfield 10, 3) := by decide +kernel
theorem dX7_now_4 : decode cX7_now 4 = .ok (.getfield 83, 3) := by decide +kernel
theorem dX7_now_7 : decode cX7_now 7 = .ok (.ireturn, 1) := by decide +kernel
theorem dX7_getSetting_0 : decode cX7_getSetting 0 = .ok (.iload_n 1, 1) := by decide +kernel
theorem dX7_getSetting_1 : decode cX7_getSetting 1 = .ok (.iconst 0, 1) := by decide +kernel
theorem dX7_getSetting_2 : decode cX7_getSetting 2 = .ok (.bipush 6, 2) := by decide +kernel
theorem dX7_getSetting_4 : decode cX7_getSetting 4 = .ok (.invokestatic 86, 3) := by decide +kernel
theorem dX7_getSetting_7 : decode cX7_getSetting 7 = .ok (.ifCond .eq 15, 3) := by decide +kernel
theorem dX7_getSetting_10 : decode cX7_getSetting 10 = .ok (.aload_n 0, 1) := by decide +kernel
theorem dX7_getSetting_11 : decode cX7_getSetting 11 = .ok (.getfield 10, 3) := by decide +kernel
theorem dX7_getSetting_14 : decode cX7_getSetting 14 = .ok (.getfield 90, 3) := by decide +kernel
theorem dX7_getSetting_17 : decode cX7_getSetting 17 = .ok (.iload_n 1, 1) := by decide +kernel
theorem dX7_getSetting_18 : decode cX7_getSetting 18 = .ok (.iaload, 1) := by decide +kernel
theorem dX7_getSetting_19 : decode cX7_getSetting 19 = .ok (.goto 5, 3) := by decide +kernel
theorem dX7_getSetting_22 : decode cX7_getSetting 22 = .ok (.bipush (-2), 2) := by decide +kernel
theorem dX7_getSetting_24 : decode cX7_getSetting 24 = .ok (.ireturn, 1) := by decide +kernel
theorem dX7_fade_0 : decode cX7_fade 0 = .ok (.aload_n 0, 1) := by decide +kernel
theorem dX7_fade_1 : decode cX7_fade 1 = .ok (.iload_n 1, 1) := by decide +kernel
theorem dX7_fade_2 : decode cX7_fade 2 = .ok (.invokevirtual 94, 3) := by decide +kernel
theorem dX7_fade_5 : decode cX7_fade 5 = .ok (.pop, 1) := by decide +kernel
theorem dX7_fade_6 : decode cX7_fade 6 = .ok (.iload_n 2, 1) := by decide +kernel
theorem dX7_fade_7 : decode cX7_fade 7 = .ok (.iconst 0, 1) := by decide +kernel
theorem dX7_fade_8 : decode cX7_fade 8 = .ok (.sipush 9999, 3) := by decide +kernel
theorem dX7_fade_11 : decode cX7_fade 11 = .ok (.invokestatic 86, 3) := by decide +kernel
theorem dX7_fade_14 : decode cX7_fade 14 = .ok (.ifCond .eq 15, 3) := by decide +kernel
theorem dX7_fade_17 : decode cX7_fade 17 = .ok (.aload_n 0, 1) := by decide +kernel
theorem dX7_fade_18 : decode cX7_fade 18 = .ok (.getfield 10, 3) := by decide +kernel
theorem dX7_fade_21 : decode cX7_fade 21 = .ok (.iload_n 1, 1) := by decide +kernel
theorem dX7_fade_22 : decode cX7_fade 22 = .ok (.iload_n 2, 1) := by decide +kernel
theorem dX7_fade_23 : decode cX7_fade 23 = .ok (.invokevirtual 98, 3) := by decide +kernel
theorem dX7_fade_26 : decode cX7_fade 26 = .ok (.goto 5, 3) := by decide +kernel
theorem dX7_fade_29 : decode cX7_fade 29 = .ok (.bipush (-2), 2) := by decide +kernel
theorem dX7_fade_31 : decode cX7_fade 31 = .ok (.ireturn, 1) := by decide +kernel
theorem dX7_stateOf_0 : decode cX7_stateOf 0 = .ok (.aload_n 0, 1) := by decide +kernel
theorem dX7_stateOf_1 : decode cX7_stateOf 1 = .ok (.iload_n 1, 1) := by decide +kernel
theorem dX7_stateOf_2 : decode cX7_stateOf 2 = .ok (.invokevirtual 149, 3) := by decide +kernel
theorem dX7_stateOf_5 : decode cX7_stateOf 5 = .ok (.getfield 122, 3) := by decide +kernel
theorem dX7_stateOf_8 : decode cX7_stateOf 8 = .ok (.ireturn, 1) := by decide +kernel
theorem dX7_senderOf_0 : decode cX7_senderOf 0 = .ok (.aload_n 0, 1) := by decide +kernel
theorem dX7_senderOf_1 : decode cX7_senderOf 1 = .ok (.iload_n 1, 1) := by decide +kernel
theorem dX7_senderOf_2 : decode cX7_senderOf 2 = .ok (.invokevirtual 149, 3) := by decide +kernel
theorem dX7_senderOf_5 : decode cX7_senderOf 5 = .ok (.getfield 127, 3) := by decide +kernel
theorem dX7_senderOf_8 : decode cX7_senderOf 8 = .ok (.ireturn, 1) := by decide +kernel
theorem dX7_receiverOf_0 : decode cX7_receiverOf 0 = .ok (.aload_n 0, 1) := by decide +kernel
theorem dX7_receiverOf_1 : decode cX7_receiverOf 1 = .ok (.iload_n 1, 1) := by decide +kernel
theorem dX7_receiverOf_2 : decode cX7_receiverOf 2 = .ok (.invokevirtual 149, 3) := by decide +kernel
theorem dX7_receiverOf_5 : decode cX7_receiverOf 5 = .ok (.getfield 153, 3) := by decide +kernel
theorem dX7_receiverOf_8 : decode cX7_receiverOf 8 = .ok (.ireturn, 1) := by decide +kernel
theorem dX7_priorityOf_0 : decode cX7_priorityOf 0 = .ok (.aload_n 0, 1) := by decide +kernel
theorem dX7_priorityOf_1 : decode cX7_priorityOf 1 = .ok (.iload_n 1, 1) := by decide +kernel
theorem dX7_priorityOf_2 : decode cX7_priorityOf 2 = .ok (.invokevirtual 149, 3) := by decide +kernel
theorem dX7_priorityOf_5 : decode cX7_priorityOf 5 = .ok (.getfield 156, 3) := by decide +kernel
theorem dX7_priorityOf_8 : decode cX7_priorityOf 8 = .ok (.ireturn, 1) := by decide +kernel
theorem dX7_carrierOf_0 : decode cX7_carrierOf 0 = .ok (.aload_n 0, 1) := by decide +kernel
theorem dX7_carrierOf_1 : decode cX7_carrierOf 1 = .ok (.iload_n 1, 1) := by decide +kernel
theorem dX7_carrierOf_2 : decode cX7_carrierOf 2 = .ok (.invokevirtual 149, 3) := by decide +kernel
theorem dX7_carrierOf_5 : decode cX7_carrierOf 5 = .ok (.astore_n 2, 1) := by decide +kernel
theorem dX7_carrierOf_6 : decode cX7_carrierOf 6 = .ok (.aload_n 2, 1) := by decide +kernel
theorem dX7_carrierOf_7 : decode cX7_carrierOf 7 = .ok (.getfield 122, 3) := by decide +kernel
theorem dX7_carrierOf_10 : decode cX7_carrierOf 10 = .ok (.iconst 1, 1) := by decide +kernel
theorem dX7_carrierOf_11 : decode cX7_carrierOf 11 = .ok (.if_icmp .ne 10, 3) := by decide +kernel
theorem dX7_carrierOf_14 : decode cX7_carrierOf 14 = .ok (.aload_n 2, 1) := by decide +kernel
theorem dX7_carrierOf_15 : decode cX7_carrierOf 15 = .ok (.getfield 159, 3) := by decide +kernel
theorem dX7_carrierOf_18 : decode cX7_carrierOf 18 = .ok (.goto 4, 3) := by decide +kernel
theorem dX7_carrierOf_21 : decode cX7_carrierOf 21 = .ok (.iconst (-1), 1) := by decide +kernel
theorem dX7_carrierOf_22 : decode cX7_carrierOf 22 = .ok (.ireturn, 1) := by decide +kernel
theorem dX7_startOf_0 : decode cX7_startOf 0 = .ok (.aload_n 0, 1) := by decide +kernel
theorem dX7_startOf_1 : decode cX7_startOf 1 = .ok (.iload_n 1, 1) := by decide +kernel
theorem dX7_startOf_2 : decode cX7_startOf 2 = .ok (.invokevirtual 149, 3) := by decide +kernel
theorem dX7_startOf_5 : decode cX7_startOf 5 = .ok (.astore_n 2, 1) := by decide +kernel
theorem dX7_startOf_6 : decode cX7_startOf 6 = .ok (.aload_n 2, 1) := by decide +kernel
theorem dX7_startOf_7 : decode cX7_startOf 7 = .ok (.getfield 122, 3) := by decide +kernel
theorem dX7_startOf_10 : decode cX7_startOf 10 = .ok (.iconst 1, 1) := by decide +kernel
theorem dX7_startOf_11 : decode cX7_startOf 11 = .ok (.if_icmp .ne 10, 3) := by decide +kernel
theorem dX7_startOf_14 : decode cX7_startOf 14 = .ok (.aload_n 2, 1) := by decide +kernel
theorem dX7_startOf_15 : decode cX7_startOf 15 = .ok (.getfield 162, 3) := by decide +kernel
theorem dX7_startOf_18 : decode cX7_startOf 18 = .ok (.goto 4, 3) := by decide +kernel
theorem dX7_startOf_21 : decode cX7_startOf 21 = .ok (.iconst (-1), 1) := by decide +kernel
theorem dX7_startOf_22 : decode cX7_startOf 22 = .ok (.ireturn, 1) := by decide +kernel
theorem dX7_burstOf_0 : decode cX7_burstOf 0 = .ok (.aload_n 0, 1) := by decide +kernel
theorem dX7_burstOf_1 : decode cX7_burstOf 1 = .ok (.iload_n 1, 1) := by decide +kernel
theorem dX7_burstOf_2 : decode cX7_burstOf 2 = .ok (.invokevirtual 149, 3) := by decide +kernel
theorem dX7_burstOf_5 : decode cX7_burstOf 5 = .ok (.getfield 130, 3) := by decide +kernel
theorem dX7_burstOf_8 : decode cX7_burstOf 8 = .ok (.ireturn, 1) := by decide +kernel
theorem dX7_sendOffset_0 : decode cX7_sendOffset 0 = .ok (.aload_n 0, 1) := by decide +kernel
theorem dX7_sendOffset_1 : decode cX7_sendOffset 1 = .ok (.iload_n 1, 1) := by decide +kernel
theorem dX7_sendOffset_2 : decode cX7_sendOffset 2 = .ok (.invokevirtual 149, 3) := by decide +kernel
theorem dX7_sendOffset_5 : decode cX7_sendOffset 5 = .ok (.astore_n 2, 1) := by decide +kernel
theorem dX7_sendOffset_6 : decode cX7_sendOffset 6 = .ok (.aload_n 0, 1) := by decide +kernel
theorem dX7_sendOffset_7 : decode cX7_sendOffset 7 = .ok (.getfield 10, 3) := by decide +kernel
theorem dX7_sendOffset_10 : decode cX7_sendOffset 10 = .ok (.getfield 90, 3) := by decide +kernel
theorem dX7_sendOffset_13 : decode cX7_sendOffset 13 = .ok (.iconst 0, 1) := by decide +kernel
theorem dX7_sendOffset_14 : decode cX7_sendOffset 14 = .ok (.iaload, 1) := by decide +kernel
theorem dX7_sendOffset_15 : decode cX7_sendOffset 15 = .ok (.istore_n 3, 1) := by decide +kernel
theorem dX7_sendOffset_16 : decode cX7_sendOffset 16 = .ok (.aload_n 2, 1) := by decide +kernel
theorem dX7_sendOffset_17 : decode cX7_sendOffset 17 = .ok (.getfield 122, 3) := by decide +kernel
theorem dX7_sendOffset_20 : decode cX7_sendOffset 20 = .ok (.iconst 1, 1) := by decide +kernel
theorem dX7_sendOffset_21 : decode cX7_sendOffset 21 = .ok (.if_icmp .ne 7, 3) := by decide +kernel
theorem dX7_sendOffset_24 : decode cX7_sendOffset 24 = .ok (.iload_n 3, 1) := by decide +kernel
theorem dX7_sendOffset_25 : decode cX7_sendOffset 25 = .ok (.ifCond .gt 5, 3) := by decide +kernel
theorem dX7_sendOffset_28 : decode cX7_sendOffset 28 = .ok (.iconst (-1), 1) := by decide +kernel
theorem dX7_sendOffset_29 : decode cX7_sendOffset 29 = .ok (.ireturn, 1) := by decide +kernel
theorem dX7_sendOffset_30 : decode cX7_sendOffset 30 = .ok (.aload_n 2, 1) := by decide +kernel
theorem dX7_sendOffset_31 : decode cX7_sendOffset 31 = .ok (.getfield 162, 3) := by decide +kernel
theorem dX7_sendOffset_34 : decode cX7_sendOffset 34 = .ok (.aload_n 0, 1) := by decide +kernel
theorem dX7_sendOffset_35 : decode cX7_sendOffset 35 = .ok (.getfield 10, 3) := by decide +kernel
theorem dX7_sendOffset_38 : decode cX7_sendOffset 38 = .ok (.getfield 165, 3) := by decide +kernel
theorem dX7_sendOffset_41 : decode cX7_sendOffset 41 = .ok (.aload_n 2, 1) := by decide +kernel
theorem dX7_sendOffset_42 : decode cX7_sendOffset 42 = .ok (.getfield 127, 3) := by decide +kernel
theorem dX7_sendOffset_45 : decode cX7_sendOffset 45 = .ok (.aaload, 1) := by decide +kernel
theorem dX7_sendOffset_46 : decode cX7_sendOffset 46 = .ok (.getfield 169, 3) := by decide +kernel
theorem dX7_sendOffset_49 : decode cX7_sendOffset 49 = .ok (.isub, 1) := by decide +kernel
theorem dX7_sendOffset_50 : decode cX7_sendOffset 50 = .ok (.iload_n 3, 1) := by decide +kernel
theorem dX7_sendOffset_51 : decode cX7_sendOffset 51 = .ok (.invokestatic 172, 3) := by decide +kernel
theorem dX7_sendOffset_54 : decode cX7_sendOffset 54 = .ok (.ireturn, 1) := by decide +kernel
theorem dX7_endOf_0 : decode cX7_endOf 0 = .ok (.aload_n 0, 1) := by decide +kernel
theorem dX7_endOf_1 : decode cX7_endOf 1 = .ok (.iload_n 1, 1) := by decide +kernel
theorem dX7_endOf_2 : decode cX7_endOf 2 = .ok (.invokevirtual 149, 3) := by decide +kernel
theorem dX7_endOf_5 : decode cX7_endOf 5 = .ok (.astore_n 2, 1) := by decide +kernel
theorem dX7_endOf_6 : decode cX7_endOf 6 = .ok (.aload_n 2, 1) := by decide +kernel
theorem dX7_endOf_7 : decode cX7_endOf 7 = .ok (.getfield 122, 3) := by decide +kernel
theorem dX7_endOf_10 : decode cX7_endOf 10 = .ok (.iconst 1, 1) := by decide +kernel
theorem dX7_endOf_11 : decode cX7_endOf 11 = .ok (.if_icmp .ne 10, 3) := by decide +kernel
theorem dX7_endOf_14 : decode cX7_endOf 14 = .ok (.aload_n 2, 1) := by decide +kernel
theorem dX7_endOf_15 : decode cX7_endOf 15 = .ok (.invokevirtual 177, 3) := by decide +kernel
theorem dX7_endOf_18 : decode cX7_endOf 18 = .ok (.goto 4, 3) := by decide +kernel
theorem dX7_endOf_21 : decode cX7_endOf 21 = .ok (.iconst (-1), 1) := by decide +kernel
theorem dX7_endOf_22 : decode cX7_endOf 22 = .ok (.ireturn, 1) := by decide +kernel
theorem dX7_conflicts_0 : decode cX7_conflicts 0 = .ok (.aload_n 0, 1) := by decide +kernel
theorem dX7_conflicts_1 : decode cX7_conflicts 1 = .ok (.iload_n 1, 1) := by decide +kernel
theorem dX7_conflicts_2 : decode cX7_conflicts 2 = .ok (.invokevirtual 149, 3) := by decide +kernel
theorem dX7_conflicts_5 : decode cX7_conflicts 5 = .ok (.astore_n 2, 1) := by decide +kernel
theorem dX7_conflicts_6 : decode cX7_conflicts 6 = .ok (.aload_n 2, 1) := by decide +kernel
theorem dX7_conflicts_7 : decode cX7_conflicts 7 = .ok (.getfield 122, 3) := by decide +kernel
theorem dX7_conflicts_10 : decode cX7_conflicts 10 = .ok (.iconst 1, 1) := by decide +kernel
theorem dX7_conflicts_11 : decode cX7_conflicts 11 = .ok (.if_icmp .eq 5, 3) := by decide +kernel
theorem dX7_conflicts_14 : decode cX7_conflicts 14 = .ok (.iconst 0, 1) := by decide +kernel
theorem dX7_conflicts_15 : decode cX7_conflicts 15 = .ok (.ireturn, 1) := by decide +kernel
theorem dX7_conflicts_16 : decode cX7_conflicts 16 = .ok (.iconst 0, 1) := by decide +kernel
theorem dX7_conflicts_17 : decode cX7_conflicts 17 = .ok (.istore_n 3, 1) := by decide +kernel
theorem dX7_conflicts_18 : decode cX7_conflicts 18 = .ok (.iconst 0, 1) := by decide +kernel
theorem dX7_conflicts_19 : decode cX7_conflicts 19 = .ok (.istore 4, 2) := by decide +kernel
theorem dX7_conflicts_21 : decode cX7_conflicts 21 = .ok (.iload 4, 2) := by decide +kernel
theorem dX7_conflicts_23 : decode cX7_conflicts 23 = .ok (.aload_n 0, 1) := by decide +kernel
theorem dX7_conflicts_24 : decode cX7_conflicts 24 = .ok (.getfield 10, 3) := by decide +kernel
theorem dX7_conflicts_27 : decode cX7_conflicts 27 = .ok (.getfield 74, 3) := by decide +kernel
theorem dX7_conflicts_30 : decode cX7_conflicts 30 = .ok (.if_icmp .ge 56, 3) := by decide +kernel
theorem dX7_conflicts_33 : decode cX7_conflicts 33 = .ok (.aload_n 0, 1) := by decide +kernel
theorem dX7_conflicts_34 : decode cX7_conflicts 34 = .ok (.getfield 10, 3) := by decide +kernel
theorem dX7_conflicts_37 : decode cX7_conflicts 37 = .ok (.getfield 118, 3) := by decide +kernel
theorem dX7_conflicts_40 : decode cX7_conflicts 40 = .ok (.iload 4, 2) := by decide +kernel
theorem dX7_conflicts_42 : decode cX7_conflicts 42 = .ok (.aaload, 1) := by decide +kernel
theorem dX7_conflicts_43 : decode cX7_conflicts 43 = .ok (.astore 5, 2) := by decide +kernel
theorem dX7_conflicts_45 : decode cX7_conflicts 45 = .ok (.iload 4, 2) := by decide +kernel
theorem dX7_conflicts_47 : decode cX7_conflicts 47 = .ok (.iload_n 1, 1) := by decide +kernel
theorem dX7_conflicts_48 : decode cX7_conflicts 48 = .ok (.if_icmp .eq 32, 3) := by decide +kernel
theorem dX7_conflicts_51 : decode cX7_conflicts 51 = .ok (.aload 5, 2) := by decide +kernel
theorem dX7_conflicts_53 : decode cX7_conflicts 53 = .ok (.getfield 122, 3) := by decide +kernel
theorem dX7_conflicts_56 : decode cX7_conflicts 56 = .ok (.iconst 1, 1) := by decide +kernel
theorem dX7_conflicts_57 : decode cX7_conflicts 57 = .ok (.if_icmp .ne 23, 3) := by decide +kernel
theorem dX7_conflicts_60 : decode cX7_conflicts 60 = .ok (.aload 5, 2) := by decide +kernel
theorem dX7_conflicts_62 : decode cX7_conflicts 62 = .ok (.aload_n 2, 1) := by decide +kernel
theorem dX7_conflicts_63 : decode cX7_conflicts 63 = .ok (.aload_n 2, 1) := by decide +kernel
theorem dX7_conflicts_64 : decode cX7_conflicts 64 = .ok (.getfield 159, 3) := by decide +kernel
theorem dX7_conflicts_67 : decode cX7_conflicts 67 = .ok (.invokevirtual 200, 3) := by decide +kernel
theorem dX7_conflicts_70 : decode cX7_conflicts 70 = .ok (.ifCond .eq 10, 3) := by decide +kernel
theorem dX7_conflicts_73 : decode cX7_conflicts 73 = .ok (.iload_n 3, 1) := by decide +kernel
theorem dX7_conflicts_74 : decode cX7_conflicts 74 = .ok (.iconst 1, 1) := by decide +kernel
theorem dX7_conflicts_75 : decode cX7_conflicts 75 = .ok (.iload 4, 2) := by decide +kernel
theorem dX7_conflicts_77 : decode cX7_conflicts 77 = .ok (.ishl, 1) := by decide +kernel
theorem dX7_conflicts_78 : decode cX7_conflicts 78 = .ok (.ior, 1) := by decide +kernel
theorem dX7_conflicts_79 : decode cX7_conflicts 79 = .ok (.istore_n 3, 1) := by decide +kernel
theorem dX7_conflicts_80 : decode cX7_conflicts 80 = .ok (.iinc 4 1, 3) := by decide +kernel
theorem dX7_conflicts_83 : decode cX7_conflicts 83 = .ok (.goto (-62), 3) := by decide +kernel
theorem dX7_conflicts_86 : decode cX7_conflicts 86 = .ok (.iload_n 3, 1) := by decide +kernel
theorem dX7_conflicts_87 : decode cX7_conflicts 87 = .ok (.ireturn, 1) := by decide +kernel
theorem dX7_queuedAt_0 : decode cX7_queuedAt 0 = .ok (.aload_n 0, 1) := by decide +kernel
theorem dX7_queuedAt_1 : decode cX7_queuedAt 1 = .ok (.getfield 10, 3) := by decide +kernel
theorem dX7_queuedAt_4 : decode cX7_queuedAt 4 = .ok (.iconst 0, 1) := by decide +kernel
theorem dX7_queuedAt_5 : decode cX7_queuedAt 5 = .ok (.invokevirtual 194, 3) := by decide +kernel
theorem dX7_queuedAt_8 : decode cX7_queuedAt 8 = .ok (.istore_n 2, 1) := by decide +kernel
theorem dX7_queuedAt_9 : decode cX7_queuedAt 9 = .ok (.iload_n 1, 1) := by decide +kernel
theorem dX7_queuedAt_10 : decode cX7_queuedAt 10 = .ok (.ifCond .lt 11, 3) := by decide +kernel
theorem dX7_queuedAt_13 : decode cX7_queuedAt 13 = .ok (.iload_n 1, 1) := by decide +kernel
theorem dX7_queuedAt_14 : decode cX7_queuedAt 14 = .ok (.iload_n 2, 1) := by decide +kernel
theorem dX7_queuedAt_15 : decode cX7_queuedAt 15 = .ok (.invokestatic 211, 3) := by decide +kernel
theorem dX7_queuedAt_18 : decode cX7_queuedAt 18 = .ok (.if_icmp .lt 5, 3) := by decide +kernel
theorem dX7_queuedAt_21 : decode cX7_queuedAt 21 = .ok (.iconst (-1), 1) := by decide +kernel
theorem dX7_queuedAt_22 : decode cX7_queuedAt 22 = .ok (.ireturn, 1) := by decide +kernel
theorem dX7_queuedAt_23 : decode cX7_queuedAt 23 = .ok (.iconst 0, 1) := by decide +kernel
theorem dX7_queuedAt_24 : decode cX7_queuedAt 24 = .ok (.istore_n 3, 1) := by decide +kernel
theorem dX7_queuedAt_25 : decode cX7_queuedAt 25 = .ok (.iload_n 3, 1) := by decide +kernel
theorem dX7_queuedAt_26 : decode cX7_queuedAt 26 = .ok (.iload_n 1, 1) := by decide +kernel
theorem dX7_queuedAt_27 : decode cX7_queuedAt 27 = .ok (.if_icmp .ge 24, 3) := by decide +kernel
theorem dX7_queuedAt_30 : decode cX7_queuedAt 30 = .ok (.iload_n 2, 1) := by decide +kernel
theorem dX7_queuedAt_31 : decode cX7_queuedAt 31 = .ok (.iconst 1, 1) := by decide +kernel
theorem dX7_queuedAt_32 : decode cX7_queuedAt 32 = .ok (.aload_n 0, 1) := by decide +kernel
theorem dX7_queuedAt_33 : decode cX7_queuedAt 33 = .ok (.getfield 10, 3) := by decide +kernel
theorem dX7_queuedAt_36 : decode cX7_queuedAt 36 = .ok (.iload_n 2, 1) := by decide +kernel
theorem dX7_queuedAt_37 : decode cX7_queuedAt 37 = .ok (.invokevirtual 216, 3) := by decide +kernel
theorem dX7_queuedAt_40 : decode cX7_queuedAt 40 = .ok (.ishl, 1) := by decide +kernel
theorem dX7_queuedAt_41 : decode cX7_queuedAt 41 = .ok (.iconst (-1), 1) := by decide +kernel
theorem dX7_queuedAt_42 : decode cX7_queuedAt 42 = .ok (.ixor, 1) := by decide +kernel
theorem dX7_queuedAt_43 : decode cX7_queuedAt 43 = .ok (.iand, 1) := by decide +kernel
theorem dX7_queuedAt_44 : decode cX7_queuedAt 44 = .ok (.istore_n 2, 1) := by decide +kernel
theorem dX7_queuedAt_45 : decode cX7_queuedAt 45 = .ok (.iinc 3 1, 3) := by decide +kernel
theorem dX7_queuedAt_48 : decode cX7_queuedAt 48 = .ok (.goto (-23), 3) := by decide +kernel
theorem dX7_queuedAt_51 : decode cX7_queuedAt 51 = .ok (.aload_n 0, 1) := by decide +kernel
theorem dX7_queuedAt_52 : decode cX7_queuedAt 52 = .ok (.getfield 10, 3) := by decide +kernel
theorem dX7_queuedAt_55 : decode cX7_queuedAt 55 = .ok (.iload_n 2, 1) := by decide +kernel
theorem dX7_queuedAt_56 : decode cX7_queuedAt 56 = .ok (.invokevirtual 216, 3) := by decide +kernel
theorem dX7_queuedAt_59 : decode cX7_queuedAt 59 = .ok (.ireturn, 1) := by decide +kernel
theorem dX7_queueLength_0 : decode cX7_queueLength 0 = .ok (.aload_n 0, 1) := by decide +kernel
theorem dX7_queueLength_1 : decode cX7_queueLength 1 = .ok (.getfield 10, 3) := by decide +kernel
theorem dX7_queueLength_4 : decode cX7_queueLength 4 = .ok (.iconst 0, 1) := by decide +kernel
theorem dX7_queueLength_5 : decode cX7_queueLength 5 = .ok (.invokevirtual 194, 3) := by decide +kernel
theorem dX7_queueLength_8 : decode cX7_queueLength 8 = .ok (.invokestatic 211, 3) := by decide +kernel
theorem dX7_queueLength_11 : decode cX7_queueLength 11 = .ok (.ireturn, 1) := by decide +kernel
theorem dX7_fitsWithout_0 : decode cX7_fitsWithout 0 = .ok (.aload_n 0, 1) := by decide +kernel
theorem dX7_fitsWithout_1 : decode cX7_fitsWithout 1 = .ok (.iload_n 1, 1) := by decide +kernel
theorem dX7_fitsWithout_2 : decode cX7_fitsWithout 2 = .ok (.invokevirtual 149, 3) := by decide +kernel
theorem dX7_fitsWithout_5 : decode cX7_fitsWithout 5 = .ok (.astore_n 3, 1) := by decide +kernel
theorem dX7_fitsWithout_6 : decode cX7_fitsWithout 6 = .ok (.aload_n 3, 1) := by decide +kernel
theorem dX7_fitsWithout_7 : decode cX7_fitsWithout 7 = .ok (.getfield 122, 3) := by decide +kernel
theorem dX7_fitsWithout_10 : decode cX7_fitsWithout 10 = .ok (.ifCond .eq 5, 3) := by decide +kernel
theorem dX7_fitsWithout_13 : decode cX7_fitsWithout 13 = .ok (.iconst 0, 1) := by decide +kernel
theorem dX7_fitsWithout_14 : decode cX7_fitsWithout 14 = .ok (.ireturn, 1) := by decide +kernel
theorem dX7_fitsWithout_15 : decode cX7_fitsWithout 15 = .ok (.iconst 0, 1) := by decide +kernel
theorem dX7_fitsWithout_16 : decode cX7_fitsWithout 16 = .ok (.istore 4, 2) := by decide +kernel
theorem dX7_fitsWithout_18 : decode cX7_fitsWithout 18 = .ok (.iload 4, 2) := by decide +kernel
theorem dX7_fitsWithout_20 : decode cX7_fitsWithout 20 = .ok (.aload_n 0, 1) := by decide +kernel
theorem dX7_fitsWithout_21 : decode cX7_fitsWithout 21 = .ok (.getfield 10, 3) := by decide +kernel
theorem dX7_fitsWithout_24 : decode cX7_fitsWithout 24 = .ok (.getfield 77, 3) := by decide +kernel
theorem dX7_fitsWithout_27 : decode cX7_fitsWithout 27 = .ok (.if_icmp .ge 26, 3) := by decide +kernel
theorem dX7_fitsWithout_30 : decode cX7_fitsWithout 30 = .ok (.aload_n 0, 1) := by decide +kernel
theorem dX7_fitsWithout_31 : decode cX7_fitsWithout 31 = .ok (.getfield 10, 3) := by decide +kernel
theorem dX7_fitsWithout_34 : decode cX7_fitsWithout 34 = .ok (.aload_n 3, 1) := by decide +kernel
theorem dX7_fitsWithout_35 : decode cX7_fitsWithout 35 = .ok (.iload 4, 2) := by decide +kernel
theorem dX7_fitsWithout_37 : decode cX7_fitsWithout 37 = .ok (.iload_n 2, 1) := by decide +kernel
theorem dX7_fitsWithout_38 : decode cX7_fitsWithout 38 = .ok (.invokevirtual 219, 3) := by decide +kernel
theorem dX7_fitsWithout_41 : decode cX7_fitsWithout 41 = .ok (.iconst (-1), 1) := by decide +kernel
theorem dX7_fitsWithout_42 : decode cX7_fitsWithout 42 = .ok (.if_icmp .eq 5, 3) := by decide +kernel
theorem dX7_fitsWithout_45 : decode cX7_fitsWithout 45 = .ok (.iconst 1, 1) := by decide +kernel
theorem dX7_fitsWithout_46 : decode cX7_fitsWithout 46 = .ok (.ireturn, 1) := by decide +kernel
theorem dX7_fitsWithout_47 : decode cX7_fitsWithout 47 = .ok (.iinc 4 1, 3) := by decide +kernel
theorem dX7_fitsWithout_50 : decode cX7_fitsWithout 50 = .ok (.goto (-32), 3) := by decide +kernel
theorem dX7_fitsWithout_53 : decode cX7_fitsWithout 53 = .ok (.iconst 0, 1) := by decide +kernel
theorem dX7_fitsWithout_54 : decode cX7_fitsWithout 54 = .ok (.ireturn, 1) := by decide +kernel
theorem dX7_callsOn_0 : decode cX7_callsOn 0 = .ok (.aload_n 0, 1) := by decide +kernel
theorem dX7_callsOn_1 : decode cX7_callsOn 1 = .ok (.iload_n 1, 1) := by decide +kernel
theorem dX7_callsOn_2 : decode cX7_callsOn 2 = .ok (.invokevirtual 225, 3) := by decide +kernel
theorem dX7_callsOn_5 : decode cX7_callsOn 5 = .ok (.iconst 0, 1) := by decide +kernel
theorem dX7_callsOn_6 : decode cX7_callsOn 6 = .ok (.istore_n 2, 1) := by decide +kernel
theorem dX7_callsOn_7 : decode cX7_callsOn 7 = .ok (.iconst 0, 1) := by decide +kernel
theorem dX7_callsOn_8 : decode cX7_callsOn 8 = .ok (.istore_n 3, 1) := by decide +kernel
theorem dX7_callsOn_9 : decode cX7_callsOn 9 = .ok (.iload_n 3, 1) := by decide +kernel
theorem dX7_callsOn_10 : decode cX7_callsOn 10 = .ok (.aload_n 0, 1) := by decide +kernel
theorem dX7_callsOn_11 : decode cX7_callsOn 11 = .ok (.getfield 10, 3) := by decide +kernel
theorem dX7_callsOn_14 : decode cX7_callsOn 14 = .ok (.getfield 74, 3) := by decide +kernel
theorem dX7_callsOn_17 : decode cX7_callsOn 17 = .ok (.if_icmp .ge 28, 3) := by decide +kernel
theorem dX7_callsOn_20 : decode cX7_callsOn 20 = .ok (.aload_n 0, 1) := by decide +kernel
theorem dX7_callsOn_21 : decode cX7_callsOn 21 = .ok (.getfield 10, 3) := by decide +kernel
theorem dX7_callsOn_24 : decode cX7_callsOn 24 = .ok (.getfield 118, 3) := by decide +kernel
theorem dX7_callsOn_27 : decode cX7_callsOn 27 = .ok (.iload_n 3, 1) := by decide +kernel
theorem dX7_callsOn_28 : decode cX7_callsOn 28 = .ok (.aaload, 1) := by decide +kernel
theorem dX7_callsOn_29 : decode cX7_callsOn 29 = .ok (.iload_n 1, 1) := by decide +kernel
theorem dX7_callsOn_30 : decode cX7_callsOn 30 = .ok (.invokevirtual 232, 3) := by decide +kernel
theorem dX7_callsOn_33 : decode cX7_callsOn 33 = .ok (.ifCond .eq 6, 3) := by decide +kernel
theorem dX7_callsOn_36 : decode cX7_callsOn 36 = .ok (.iinc 2 1, 3) := by decide +kernel
theorem dX7_callsOn_39 : decode cX7_callsOn 39 = .ok (.iinc 3 1, 3) := by decide +kernel
theorem dX7_callsOn_42 : decode cX7_callsOn 42 = .ok (.goto (-33), 3) := by decide +kernel
theorem dX7_callsOn_45 : decode cX7_callsOn 45 = .ok (.iload_n 2, 1) := by decide +kernel
theorem dX7_callsOn_46 : decode cX7_callsOn 46 = .ok (.ireturn, 1) := by decide +kernel
theorem dX7_usedSymbols_0 : decode cX7_usedSymbols 0 = .ok (.aload_n 0, 1) := by decide +kernel
theorem dX7_usedSymbols_1 : decode cX7_usedSymbols 1 = .ok (.iload_n 1, 1) := by decide +kernel
theorem dX7_usedSymbols_2 : decode cX7_usedSymbols 2 = .ok (.invokevirtual 225, 3) := by decide +kernel
theorem dX7_usedSymbols_5 : decode cX7_usedSymbols 5 = .ok (.iconst 0, 1) := by decide +kernel
theorem dX7_usedSymbols_6 : decode cX7_usedSymbols 6 = .ok (.istore_n 2, 1) := by decide +kernel
theorem dX7_usedSymbols_7 : decode cX7_usedSymbols 7 = .ok (.iconst 0, 1) := by decide +kernel
theorem dX7_usedSymbols_8 : decode cX7_usedSymbols 8 = .ok (.istore_n 3, 1) := by decide +kernel
theorem dX7_usedSymbols_9 : decode cX7_usedSymbols 9 = .ok (.iload_n 3, 1) := by decide +kernel
theorem dX7_usedSymbols_10 : decode cX7_usedSymbols 10 = .ok (.aload_n 0, 1) := by decide +kernel
theorem dX7_usedSymbols_11 : decode cX7_usedSymbols 11 = .ok (.getfield 10, 3) := by decide +kernel
theorem dX7_usedSymbols_14 : decode cX7_usedSymbols 14 = .ok (.getfield 74, 3) := by decide +kernel
theorem dX7_usedSymbols_17 : decode cX7_usedSymbols 17 = .ok (.if_icmp .ge 40, 3) := by decide +kernel
theorem dX7_usedSymbols_20 : decode cX7_usedSymbols 20 = .ok (.aload_n 0, 1) := by decide +kernel
theorem dX7_usedSymbols_21 : decode cX7_usedSymbols 21 = .ok (.getfield 10, 3) := by decide +kernel
theorem dX7_usedSymbols_24 : decode cX7_usedSymbols 24 = .ok (.getfield 118, 3) := by decide +kernel
theorem dX7_usedSymbols_27 : decode cX7_usedSymbols 27 = .ok (.iload_n 3, 1) := by decide +kernel
theorem dX7_usedSymbols_28 : decode cX7_usedSymbols 28 = .ok (.aaload, 1) := by decide +kernel
theorem dX7_usedSymbols_29 : decode cX7_usedSymbols 29 = .ok (.iload_n 1, 1) := by decide +kernel
theorem dX7_usedSymbols_30 : decode cX7_usedSymbols 30 = .ok (.invokevirtual 232, 3) := by decide +kernel
theorem dX7_usedSymbols_33 : decode cX7_usedSymbols 33 = .ok (.ifCond .eq 18, 3) := by decide +kernel
theorem dX7_usedSymbols_36 : decode cX7_usedSymbols 36 = .ok (.iload_n 2, 1) := by decide +kernel
theorem dX7_usedSymbols_37 : decode cX7_usedSymbols 37 = .ok (.aload_n 0, 1) := by decide +kernel
theorem dX7_usedSymbols_38 : decode cX7_usedSymbols 38 = .ok (.getfield 10, 3) := by decide +kernel
theorem dX7_usedSymbols_41 : decode cX7_usedSymbols 41 = .ok (.getfield 118, 3) := by decide +kernel
theorem dX7_usedSymbols_44 : decode cX7_usedSymbols 44 = .ok (.iload_n 3, 1) := by decide +kernel
theorem dX7_usedSymbols_45 : decode cX7_usedSymbols 45 = .ok (.aaload, 1) := by decide +kernel
theorem dX7_usedSymbols_46 : decode cX7_usedSymbols 46 = .ok (.getfield 130, 3) := by decide +kernel
theorem dX7_usedSymbols_49 : decode cX7_usedSymbols 49 = .ok (.iadd, 1) := by decide +kernel
theorem dX7_usedSymbols_50 : decode cX7_usedSymbols 50 = .ok (.istore_n 2, 1) := by decide +kernel
theorem dX7_usedSymbols_51 : decode cX7_usedSymbols 51 = .ok (.iinc 3 1, 3) := by decide +kernel
theorem dX7_usedSymbols_54 : decode cX7_usedSymbols 54 = .ok (.goto (-45), 3) := by decide +kernel
theorem dX7_usedSymbols_57 : decode cX7_usedSymbols 57 = .ok (.iload_n 2, 1) := by decide +kernel
theorem dX7_usedSymbols_58 : decode cX7_usedSymbols 58 = .ok (.ireturn, 1) := by decide +kernel
theorem dX7_callAt_0 : decode cX7_callAt 0 = .ok (.aload_n 0, 1) := by decide +kernel
theorem dX7_callAt_1 : decode cX7_callAt 1 = .ok (.iload_n 1, 1) := by decide +kernel
theorem dX7_callAt_2 : decode cX7_callAt 2 = .ok (.invokevirtual 225, 3) := by decide +kernel
theorem dX7_callAt_5 : decode cX7_callAt 5 = .ok (.iconst 0, 1) := by decide +kernel
theorem dX7_callAt_6 : decode cX7_callAt 6 = .ok (.istore_n 3, 1) := by decide +kernel
theorem dX7_callAt_7 : decode cX7_callAt 7 = .ok (.iload_n 3, 1) := by decide +kernel
theorem dX7_callAt_8 : decode cX7_callAt 8 = .ok (.aload_n 0, 1) := by decide +kernel
theorem dX7_callAt_9 : decode cX7_callAt 9 = .ok (.getfield 10, 3) := by decide +kernel
theorem dX7_callAt_12 : decode cX7_callAt 12 = .ok (.getfield 74, 3) := by decide +kernel
theorem dX7_callAt_15 : decode cX7_callAt 15 = .ok (.if_icmp .ge 51, 3) := by decide +kernel
theorem dX7_callAt_18 : decode cX7_callAt 18 = .ok (.aload_n 0, 1) := by decide +kernel
theorem dX7_callAt_19 : decode cX7_callAt 19 = .ok (.getfield 10, 3) := by decide +kernel
theorem dX7_callAt_22 : decode cX7_callAt 22 = .ok (.getfield 118, 3) := by decide +kernel
theorem dX7_callAt_25 : decode cX7_callAt 25 = .ok (.iload_n 3, 1) := by decide +kernel
theorem dX7_callAt_26 : decode cX7_callAt 26 = .ok (.aaload, 1) := by decide +kernel
theorem dX7_callAt_27 : decode cX7_callAt 27 = .ok (.iload_n 1, 1) := by decide +kernel
theorem dX7_callAt_28 : decode cX7_callAt 28 = .ok (.invokevirtual 232, 3) := by decide +kernel
theorem dX7_callAt_31 : decode cX7_callAt 31 = .ok (.ifCond .eq 29, 3) := by decide +kernel
theorem dX7_callAt_34 : decode cX7_callAt 34 = .ok (.aload_n 0, 1) := by decide +kernel
theorem dX7_callAt_35 : decode cX7_callAt 35 = .ok (.getfield 10, 3) := by decide +kernel
theorem dX7_callAt_38 : decode cX7_callAt 38 = .ok (.iload_n 1, 1) := by decide +kernel
theorem dX7_callAt_39 : decode cX7_callAt 39 = .ok (.aload_n 0, 1) := by decide +kernel
theorem dX7_callAt_40 : decode cX7_callAt 40 = .ok (.getfield 10, 3) := by decide +kernel
theorem dX7_callAt_43 : decode cX7_callAt 43 = .ok (.getfield 118, 3) := by decide +kernel
theorem dX7_callAt_46 : decode cX7_callAt 46 = .ok (.iload_n 3, 1) := by decide +kernel
theorem dX7_callAt_47 : decode cX7_callAt 47 = .ok (.aaload, 1) := by decide +kernel
theorem dX7_callAt_48 : decode cX7_callAt 48 = .ok (.getfield 162, 3) := by decide +kernel
theorem dX7_callAt_51 : decode cX7_callAt 51 = .ok (.invokevirtual 236, 3) := by decide +kernel
theorem dX7_callAt_54 : decode cX7_callAt 54 = .ok (.iload_n 2, 1) := by decide +kernel
theorem dX7_callAt_55 : decode cX7_callAt 55 = .ok (.if_icmp .ne 5, 3) := by decide +kernel
theorem dX7_callAt_58 : decode cX7_callAt 58 = .ok (.iload_n 3, 1) := by decide +kernel
theorem dX7_callAt_59 : decode cX7_callAt 59 = .ok (.ireturn, 1) := by decide +kernel
theorem dX7_callAt_60 : decode cX7_callAt 60 = .ok (.iinc 3 1, 3) := by decide +kernel
theorem dX7_callAt_63 : decode cX7_callAt 63 = .ok (.goto (-56), 3) := by decide +kernel
theorem dX7_callAt_66 : decode cX7_callAt 66 = .ok (.iconst (-1), 1) := by decide +kernel
theorem dX7_callAt_67 : decode cX7_callAt 67 = .ok (.ireturn, 1) := by decide +kernel
theorem dX7_callOver_0 : decode cX7_callOver 0 = .ok (.aload_n 0, 1) := by decide +kernel
theorem dX7_callOver_1 : decode cX7_callOver 1 = .ok (.iload_n 1, 1) := by decide +kernel
theorem dX7_callOver_2 : decode cX7_callOver 2 = .ok (.invokevirtual 225, 3) := by decide +kernel
theorem dX7_callOver_5 : decode cX7_callOver 5 = .ok (.iconst 0, 1) := by decide +kernel
theorem dX7_callOver_6 : decode cX7_callOver 6 = .ok (.istore_n 3, 1) := by decide +kernel
theorem dX7_callOver_7 : decode cX7_callOver 7 = .ok (.iload_n 3, 1) := by decide +kernel
theorem dX7_callOver_8 : decode cX7_callOver 8 = .ok (.aload_n 0, 1) := by decide +kernel
theorem dX7_callOver_9 : decode cX7_callOver 9 = .ok (.getfield 10, 3) := by decide +kernel
theorem dX7_callOver_12 : decode cX7_callOver 12 = .ok (.getfield 74, 3) := by decide +kernel
theorem dX7_callOver_15 : decode cX7_callOver 15 = .ok (.if_icmp .ge 55, 3) := by decide +kernel
theorem dX7_callOver_18 : decode cX7_callOver 18 = .ok (.aload_n 0, 1) := by decide +kernel
theorem dX7_callOver_19 : decode cX7_callOver 19 = .ok (.getfield 10, 3) := by decide +kernel
theorem dX7_callOver_22 : decode cX7_callOver 22 = .ok (.getfield 118, 3) := by decide +kernel
theorem dX7_callOver_25 : decode cX7_callOver 25 = .ok (.iload_n 3, 1) := by decide +kernel
theorem dX7_callOver_26 : decode cX7_callOver 26 = .ok (.aaload, 1) := by decide +kernel
theorem dX7_callOver_27 : decode cX7_callOver 27 = .ok (.astore 4, 2) := by decide +kernel
theorem dX7_callOver_29 : decode cX7_callOver 29 = .ok (.aload 4, 2) := by decide +kernel
theorem dX7_callOver_31 : decode cX7_callOver 31 = .ok (.iload_n 1, 1) := by decide +kernel
theorem dX7_callOver_32 : decode cX7_callOver 32 = .ok (.invokevirtual 232, 3) := by decide +kernel
theorem dX7_callOver_35 : decode cX7_callOver 35 = .ok (.ifCond .eq 29, 3) := by decide +kernel
theorem dX7_callOver_38 : decode cX7_callOver 38 = .ok (.aload 4, 2) := by decide +kernel
theorem dX7_callOver_40 : decode cX7_callOver 40 = .ok (.getfield 162, 3) := by decide +kernel
theorem dX7_callOver_43 : decode cX7_callOver 43 = .ok (.iload_n 2, 1) := by decide +kernel
theorem dX7_callOver_44 : decode cX7_callOver 44 = .ok (.if_icmp .gt 20, 3) := by decide +kernel
theorem dX7_callOver_47 : decode cX7_callOver 47 = .ok (.iload_n 2, 1) := by decide +kernel
theorem dX7_callOver_48 : decode cX7_callOver 48 = .ok (.aload 4, 2) := by decide +kernel
theorem dX7_callOver_50 : decode cX7_callOver 50 = .ok (.getfield 162, 3) := by decide +kernel
theorem dX7_callOver_53 : decode cX7_callOver 53 = .ok (.aload 4, 2) := by decide +kernel
theorem dX7_callOver_55 : decode cX7_callOver 55 = .ok (.getfield 130, 3) := by decide +kernel
theorem dX7_callOver_58 : decode cX7_callOver 58 = .ok (.iadd, 1) := by decide +kernel
theorem dX7_callOver_59 : decode cX7_callOver 59 = .ok (.if_icmp .ge 5, 3) := by decide +kernel
theorem dX7_callOver_62 : decode cX7_callOver 62 = .ok (.iload_n 3, 1) := by decide +kernel
theorem dX7_callOver_63 : decode cX7_callOver 63 = .ok (.ireturn, 1) := by decide +kernel
theorem dX7_callOver_64 : decode cX7_callOver 64 = .ok (.iinc 3 1, 3) := by decide +kernel
theorem dX7_callOver_67 : decode cX7_callOver 67 = .ok (.goto (-60), 3) := by decide +kernel
theorem dX7_callOver_70 : decode cX7_callOver 70 = .ok (.iconst (-1), 1) := by decide +kernel
theorem dX7_callOver_71 : decode cX7_callOver 71 = .ok (.ireturn, 1) := by decide +kernel
theorem dX7_request_0 : decode cX7_request 0 = .ok (.aload_n 0, 1) := by decide +kernel
theorem dX7_request_1 : decode cX7_request 1 = .ok (.getfield 10, 3) := by decide +kernel
theorem dX7_request_4 : decode cX7_request 4 = .ok (.getfield 71, 3) := by decide +kernel
theorem dX7_request_7 : decode cX7_request 7 = .ok (.iconst 1, 1) := by decide +kernel
theorem dX7_request_8 : decode cX7_request 8 = .ok (.isub, 1) := by decide +kernel
theorem dX7_request_9 : decode cX7_request 9 = .ok (.istore 6, 2) := by decide +kernel
theorem dX7_request_11 : decode cX7_request 11 = .ok (.iload_n 1, 1) := by decide +kernel
theorem dX7_request_12 : decode cX7_request 12 = .ok (.iconst 0, 1) := by decide +kernel
theorem dX7_request_13 : decode cX7_request 13 = .ok (.iload 6, 2) := by decide +kernel
theorem dX7_request_15 : decode cX7_request 15 = .ok (.invokestatic 86, 3) := by decide +kernel
theorem dX7_request_18 : decode cX7_request 18 = .ok (.ifCond .eq 18, 3) := by decide +kernel
theorem dX7_request_21 : decode cX7_request 21 = .ok (.iload_n 2, 1) := by decide +kernel
theorem dX7_request_22 : decode cX7_request 22 = .ok (.iconst 0, 1) := by decide +kernel
theorem dX7_request_23 : decode cX7_request 23 = .ok (.iload 6, 2) := by decide +kernel
theorem dX7_request_25 : decode cX7_request 25 = .ok (.invokestatic 86, 3) := by decide +kernel
theorem dX7_request_28 : decode cX7_request 28 = .ok (.ifCond .eq 8, 3) := by decide +kernel
theorem dX7_request_31 : decode cX7_request 31 = .ok (.iload_n 1, 1) := by decide +kernel
theorem dX7_request_32 : decode cX7_request 32 = .ok (.iload_n 2, 1) := by decide +kernel
theorem dX7_request_33 : decode cX7_request 33 = .ok (.if_icmp .ne 5, 3) := by decide +kernel
theorem dX7_request_36 : decode cX7_request 36 = .ok (.iconst (-1), 1) := by decide +kernel
theorem dX7_request_37 : decode cX7_request 37 = .ok (.ireturn, 1) := by decide +kernel
theorem dX7_request_38 : decode cX7_request 38 = .ok (.iload_n 3, 1) := by decide +kernel
theorem dX7_request_39 : decode cX7_request 39 = .ok (.iconst 0, 1) := by decide +kernel
theorem dX7_request_40 : decode cX7_request 40 = .ok (.bipush 9, 2) := by decide +kernel
theorem dX7_request_42 : decode cX7_request 42 = .ok (.invokestatic 86, 3) := by decide +kernel
theorem dX7_request_45 : decode cX7_request 45 = .ok (.ifCond .eq 27, 3) := by decide +kernel
theorem dX7_request_48 : decode cX7_request 48 = .ok (.iload 4, 2) := by decide +kernel
theorem dX7_request_50 : decode cX7_request 50 = .ok (.iconst 1, 1) := by decide +kernel
theorem dX7_request_51 : decode cX7_request 51 = .ok (.sipush 2000, 3) := by decide +kernel
theorem dX7_request_54 : decode cX7_request 54 = .ok (.invokestatic 86, 3) := by decide +kernel
theorem dX7_request_57 : decode cX7_request 57 = .ok (.ifCond .eq 15, 3) := by decide +kernel
theorem dX7_request_60 : decode cX7_request 60 = .ok (.iload 5, 2) := by decide +kernel
theorem dX7_request_62 : decode cX7_request 62 = .ok (.iconst 1, 1) := by decide +kernel
theorem dX7_request_63 : decode cX7_request 63 = .ok (.sipush 9999, 3) := by decide +kernel
theorem dX7_request_66 : decode cX7_request 66 = .ok (.invokestatic 86, 3) := by decide +kernel
theorem dX7_request_69 : decode cX7_request 69 = .ok (.ifCond .ne 6, 3) := by decide +kernel
theorem dX7_request_72 : decode cX7_request 72 = .ok (.bipush (-2), 2) := by decide +kernel
theorem dX7_request_74 : decode cX7_request 74 = .ok (.ireturn, 1) := by decide +kernel
theorem dX7_request_75 : decode cX7_request 75 = .ok (.aload_n 0, 1) := by decide +kernel
theorem dX7_request_76 : decode cX7_request 76 = .ok (.getfield 10, 3) := by decide +kernel
theorem dX7_request_79 : decode cX7_request 79 = .ok (.getfield 74, 3) := by decide +kernel
theorem dX7_request_82 : decode cX7_request 82 = .ok (.bipush 16, 2) := by decide +kernel
theorem dX7_request_84 : decode cX7_request 84 = .ok (.if_icmp .lt 6, 3) := by decide +kernel
theorem dX7_request_87 : decode cX7_request 87 = .ok (.bipush (-3), 2) := by decide +kernel
theorem dX7_request_89 : decode cX7_request 89 = .ok (.ireturn, 1) := by decide +kernel
theorem dX7_request_90 : decode cX7_request 90 = .ok (.aload_n 0, 1) := by decide +kernel
theorem dX7_request_91 : decode cX7_request 91 = .ok (.getfield 29, 3) := by decide +kernel
theorem dX7_request_94 : decode cX7_request 94 = .ok (.aload_n 0, 1) := by decide +kernel
theorem dX7_request_95 : decode cX7_request 95 = .ok (.getfield 10, 3) := by decide +kernel
theorem dX7_request_98 : decode cX7_request 98 = .ok (.invokevirtual 245, 3) := by decide +kernel
theorem dX7_request_101 : decode cX7_request 101 = .ok (.aload_n 0, 1) := by decide +kernel
theorem dX7_request_102 : decode cX7_request 102 = .ok (.getfield 10, 3) := by decide +kernel
theorem dX7_request_105 : decode cX7_request 105 = .ok (.getfield 74, 3) := by decide +kernel
theorem dX7_request_108 : decode cX7_request 108 = .ok (.istore 7, 2) := by decide +kernel
theorem dX7_request_110 : decode cX7_request 110 = .ok (.aload_n 0, 1) := by decide +kernel
theorem dX7_request_111 : decode cX7_request 111 = .ok (.getfield 10, 3) := by decide +kernel
theorem dX7_request_114 : decode cX7_request 114 = .ok (.iload_n 1, 1) := by decide +kernel
theorem dX7_request_115 : decode cX7_request 115 = .ok (.iload_n 2, 1) := by decide +kernel
theorem dX7_request_116 : decode cX7_request 116 = .ok (.iload_n 3, 1) := by decide +kernel
theorem dX7_request_117 : decode cX7_request 117 = .ok (.iload 4, 2) := by decide +kernel
theorem dX7_request_119 : decode cX7_request 119 = .ok (.iload 5, 2) := by decide +kernel
theorem dX7_request_121 : decode cX7_request 121 = .ok (.invokevirtual 248, 3) := by decide +kernel
theorem dX7_request_124 : decode cX7_request 124 = .ok (.iload 7, 2) := by decide +kernel
theorem dX7_request_126 : decode cX7_request 126 = .ok (.ireturn, 1) := by decide +kernel
theorem dX7_release_0 : decode cX7_release 0 = .ok (.iload_n 1, 1) := by decide +kernel
theorem dX7_release_1 : decode cX7_release 1 = .ok (.iconst 0, 1) := by decide +kernel
theorem dX7_release_2 : decode cX7_release 2 = .ok (.aload_n 0, 1) := by decide +kernel
theorem dX7_release_3 : decode cX7_release 3 = .ok (.getfield 10, 3) := by decide +kernel
theorem dX7_release_6 : decode cX7_release 6 = .ok (.getfield 74, 3) := by decide +kernel
theorem dX7_release_9 : decode cX7_release 9 = .ok (.iconst 1, 1) := by decide +kernel
theorem dX7_release_10 : decode cX7_release 10 = .ok (.isub, 1) := by decide +kernel
theorem dX7_release_11 : decode cX7_release 11 = .ok (.invokestatic 86, 3) := by decide +kernel
theorem dX7_release_14 : decode cX7_release 14 = .ok (.ifCond .eq 19, 3) := by decide +kernel
theorem dX7_release_17 : decode cX7_release 17 = .ok (.aload_n 0, 1) := by decide +kernel
theorem dX7_release_18 : decode cX7_release 18 = .ok (.getfield 10, 3) := by decide +kernel
theorem dX7_release_21 : decode cX7_release 21 = .ok (.getfield 118, 3) := by decide +kernel
theorem dX7_release_24 : decode cX7_release 24 = .ok (.iload_n 1, 1) := by decide +kernel
theorem dX7_release_25 : decode cX7_release 25 = .ok (.aaload, 1) := by decide +kernel
theorem dX7_release_26 : decode cX7_release 26 = .ok (.getfield 122, 3) := by decide +kernel
theorem dX7_release_29 : decode cX7_release 29 = .ok (.iconst 2, 1) := by decide +kernel
theorem dX7_release_30 : decode cX7_release 30 = .ok (.if_icmp .ne 5, 3) := by decide +kernel
theorem dX7_release_33 : decode cX7_release 33 = .ok (.iconst (-1), 1) := by decide +kernel
theorem dX7_release_34 : decode cX7_release 34 = .ok (.ireturn, 1) := by decide +kernel
theorem dX7_release_35 : decode cX7_release 35 = .ok (.aload_n 0, 1) := by decide +kernel
theorem dX7_release_36 : decode cX7_release 36 = .ok (.getfield 29, 3) := by decide +kernel
theorem dX7_release_39 : decode cX7_release 39 = .ok (.aload_n 0, 1) := by decide +kernel
theorem dX7_release_40 : decode cX7_release 40 = .ok (.getfield 10, 3) := by decide +kernel
theorem dX7_release_43 : decode cX7_release 43 = .ok (.invokevirtual 245, 3) := by decide +kernel
theorem dX7_release_46 : decode cX7_release 46 = .ok (.aload_n 0, 1) := by decide +kernel
theorem dX7_release_47 : decode cX7_release 47 = .ok (.getfield 10, 3) := by decide +kernel
theorem dX7_release_50 : decode cX7_release 50 = .ok (.getfield 118, 3) := by decide +kernel
theorem dX7_release_53 : decode cX7_release 53 = .ok (.iload_n 1, 1) := by decide +kernel
theorem dX7_release_54 : decode cX7_release 54 = .ok (.aaload, 1) := by decide +kernel
theorem dX7_release_55 : decode cX7_release 55 = .ok (.iconst 2, 1) := by decide +kernel
theorem dX7_release_56 : decode cX7_release 56 = .ok (.putfield 122, 3) := by decide +kernel
theorem dX7_release_59 : decode cX7_release 59 = .ok (.aload_n 0, 1) := by decide +kernel
theorem dX7_release_60 : decode cX7_release 60 = .ok (.getfield 10, 3) := by decide +kernel
theorem dX7_release_63 : decode cX7_release 63 = .ok (.aload_n 0, 1) := by decide +kernel
theorem dX7_release_64 : decode cX7_release 64 = .ok (.getfield 10, 3) := by decide +kernel
theorem dX7_release_67 : decode cX7_release 67 = .ok (.iconst 0, 1) := by decide +kernel
theorem dX7_release_68 : decode cX7_release 68 = .ok (.invokevirtual 194, 3) := by decide +kernel
theorem dX7_release_71 : decode cX7_release 71 = .ok (.invokevirtual 252, 3) := by decide +kernel
theorem dX7_release_74 : decode cX7_release 74 = .ok (.ireturn, 1) := by decide +kernel
theorem dX7_advance_0 : decode cX7_advance 0 = .ok (.iload_n 1, 1) := by decide +kernel
theorem dX7_advance_1 : decode cX7_advance 1 = .ok (.iconst 1, 1) := by decide +kernel
theorem dX7_advance_2 : decode cX7_advance 2 = .ok (.sipush 200, 3) := by decide +kernel
theorem dX7_advance_5 : decode cX7_advance 5 = .ok (.invokestatic 86, 3) := by decide +kernel
theorem dX7_advance_8 : decode cX7_advance 8 = .ok (.ifCond .ne 6, 3) := by decide +kernel
theorem dX7_advance_11 : decode cX7_advance 11 = .ok (.bipush (-2), 2) := by decide +kernel
theorem dX7_advance_13 : decode cX7_advance 13 = .ok (.ireturn, 1) := by decide +kernel
theorem dX7_advance_14 : decode cX7_advance 14 = .ok (.aload_n 0, 1) := by decide +kernel
theorem dX7_advance_15 : decode cX7_advance 15 = .ok (.getfield 10, 3) := by decide +kernel
theorem dX7_advance_18 : decode cX7_advance 18 = .ok (.getfield 83, 3) := by decide +kernel
theorem dX7_advance_21 : decode cX7_advance 21 = .ok (.iload_n 1, 1) := by decide +kernel
theorem dX7_advance_22 : decode cX7_advance 22 = .ok (.iadd, 1) := by decide +kernel
theorem dX7_advance_23 : decode cX7_advance 23 = .ok (.sipush 9999, 3) := by decide +kernel
theorem dX7_advance_26 : decode cX7_advance 26 = .ok (.if_icmp .le 6, 3) := by decide +kernel
theorem dX7_advance_29 : decode cX7_advance 29 = .ok (.bipush (-3), 2) := by decide +kernel
theorem dX7_advance_31 : decode cX7_advance 31 = .ok (.ireturn, 1) := by decide +kernel
theorem dX7_advance_32 : decode cX7_advance 32 = .ok (.aload_n 0, 1) := by decide +kernel
theorem dX7_advance_33 : decode cX7_advance 33 = .ok (.getfield 29, 3) := by decide +kernel
theorem dX7_advance_36 : decode cX7_advance 36 = .ok (.aload_n 0, 1) := by decide +kernel
theorem dX7_advance_37 : decode cX7_advance 37 = .ok (.getfield 10, 3) := by decide +kernel
theorem dX7_advance_40 : decode cX7_advance 40 = .ok (.invokevirtual 245, 3) := by decide +kernel
theorem dX7_advance_43 : decode cX7_advance 43 = .ok (.iconst 0, 1) := by decide +kernel
theorem dX7_advance_44 : decode cX7_advance 44 = .ok (.istore_n 2, 1) := by decide +kernel
theorem dX7_advance_45 : decode cX7_advance 45 = .ok (.iload_n 2, 1) := by decide +kernel
theorem dX7_advance_46 : decode cX7_advance 46 = .ok (.iload_n 1, 1) := by decide +kernel
theorem dX7_advance_47 : decode cX7_advance 47 = .ok (.if_icmp .ge 16, 3) := by decide +kernel
theorem dX7_advance_50 : decode cX7_advance 50 = .ok (.aload_n 0, 1) := by decide +kernel
theorem dX7_advance_51 : decode cX7_advance 51 = .ok (.getfield 10, 3) := by decide +kernel
theorem dX7_advance_54 : decode cX7_advance 54 = .ok (.invokevirtual 255, 3) := by decide +kernel
theorem dX7_advance_57 : decode cX7_advance 57 = .ok (.iinc 2 1, 3) := by decide +kernel
theorem dX7_advance_60 : decode cX7_advance 60 = .ok (.goto (-15), 3) := by decide +kernel
theorem dX7_advance_63 : decode cX7_advance 63 = .ok (.aload_n 0, 1) := by decide +kernel
theorem dX7_advance_64 : decode cX7_advance 64 = .ok (.getfield 10, 3) := by decide +kernel
theorem dX7_advance_67 : decode cX7_advance 67 = .ok (.getfield 83, 3) := by decide +kernel
theorem dX7_advance_70 : decode cX7_advance 70 = .ok (.ireturn, 1) := by decide +kernel
theorem dX7_setSetting_0 : decode cX7_setSetting 0 = .ok (.iload_n 1, 1) := by decide +kernel
theorem dX7_setSetting_1 : decode cX7_setSetting 1 = .ok (.iconst 4, 1) := by decide +kernel
theorem dX7_setSetting_2 : decode cX7_setSetting 2 = .ok (.bipush 6, 2) := by decide +kernel
theorem dX7_setSetting_4 : decode cX7_setSetting 4 = .ok (.invokestatic 86, 3) := by decide +kernel
theorem dX7_setSetting_7 : decode cX7_setSetting 7 = .ok (.ifCond .eq 20, 3) := by decide +kernel
theorem dX7_setSetting_10 : decode cX7_setSetting 10 = .ok (.iload_n 2, 1) := by decide +kernel
theorem dX7_setSetting_11 : decode cX7_setSetting 11 = .ok (.getstatic 258, 3) := by decide +kernel
theorem dX7_setSetting_14 : decode cX7_setSetting 14 = .ok (.iload_n 1, 1) := by decide +kernel
theorem dX7_setSetting_15 : decode cX7_setSetting 15 = .ok (.iaload, 1) := by decide +kernel
theorem dX7_setSetting_16 : decode cX7_setSetting 16 = .ok (.getstatic 261, 3) := by decide +kernel
theorem dX7_setSetting_19 : decode cX7_setSetting 19 = .ok (.iload_n 1, 1) := by decide +kernel
theorem dX7_setSetting_20 : decode cX7_setSetting 20 = .ok (.iaload, 1) := by decide +kernel
theorem dX7_setSetting_21 : decode cX7_setSetting 21 = .ok (.invokestatic 86, 3) := by decide +kernel
theorem dX7_setSetting_24 : decode cX7_setSetting 24 = .ok (.ifCond .ne 6, 3) := by decide +kernel
theorem dX7_setSetting_27 : decode cX7_setSetting 27 = .ok (.bipush (-2), 2) := by decide +kernel
theorem dX7_setSetting_29 : decode cX7_setSetting 29 = .ok (.ireturn, 1) := by decide +kernel
theorem dX7_setSetting_30 : decode cX7_setSetting 30 = .ok (.aload_n 0, 1) := by decide +kernel
theorem dX7_setSetting_31 : decode cX7_setSetting 31 = .ok (.getfield 29, 3) := by decide +kernel
theorem dX7_setSetting_34 : decode cX7_setSetting 34 = .ok (.aload_n 0, 1) := by decide +kernel
theorem dX7_setSetting_35 : decode cX7_setSetting 35 = .ok (.getfield 10, 3) := by decide +kernel
theorem dX7_setSetting_38 : decode cX7_setSetting 38 = .ok (.invokevirtual 245, 3) := by decide +kernel
theorem dX7_setSetting_41 : decode cX7_setSetting 41 = .ok (.aload_n 0, 1) := by decide +kernel
theorem dX7_setSetting_42 : decode cX7_setSetting 42 = .ok (.getfield 10, 3) := by decide +kernel
theorem dX7_setSetting_45 : decode cX7_setSetting 45 = .ok (.getfield 90, 3) := by decide +kernel
theorem dX7_setSetting_48 : decode cX7_setSetting 48 = .ok (.iload_n 1, 1) := by decide +kernel
theorem dX7_setSetting_49 : decode cX7_setSetting 49 = .ok (.iaload, 1) := by decide +kernel
theorem dX7_setSetting_50 : decode cX7_setSetting 50 = .ok (.istore_n 3, 1) := by decide +kernel
theorem dX7_setSetting_51 : decode cX7_setSetting 51 = .ok (.aload_n 0, 1) := by decide +kernel
theorem dX7_setSetting_52 : decode cX7_setSetting 52 = .ok (.getfield 10, 3) := by decide +kernel
theorem dX7_setSetting_55 : decode cX7_setSetting 55 = .ok (.getfield 90, 3) := by decide +kernel
theorem dX7_setSetting_58 : decode cX7_setSetting 58 = .ok (.iload_n 1, 1) := by decide +kernel
theorem dX7_setSetting_59 : decode cX7_setSetting 59 = .ok (.iload_n 2, 1) := by decide +kernel
theorem dX7_setSetting_60 : decode cX7_setSetting 60 = .ok (.iastore, 1) := by decide +kernel
theorem dX7_setSetting_61 : decode cX7_setSetting 61 = .ok (.iload_n 3, 1) := by decide +kernel
theorem dX7_setSetting_62 : decode cX7_setSetting 62 = .ok (.ireturn, 1) := by decide +kernel
theorem dX7_acquire_0 : decode cX7_acquire 0 = .ok (.iload_n 1, 1) := by decide +kernel
theorem dX7_acquire_1 : decode cX7_acquire 1 = .ok (.iconst 0, 1) := by decide +kernel
theorem dX7_acquire_2 : decode cX7_acquire 2 = .ok (.aload_n 0, 1) := by decide +kernel
theorem dX7_acquire_3 : decode cX7_acquire 3 = .ok (.getfield 10, 3) := by decide +kernel
theorem dX7_acquire_6 : decode cX7_acquire 6 = .ok (.getfield 71, 3) := by decide +kernel
theorem dX7_acquire_9 : decode cX7_acquire 9 = .ok (.iconst 1, 1) := by decide +kernel
theorem dX7_acquire_10 : decode cX7_acquire 10 = .ok (.isub, 1) := by decide +kernel
theorem dX7_acquire_11 : decode cX7_acquire 11 = .ok (.invokestatic 86, 3) := by decide +kernel
theorem dX7_acquire_14 : decode cX7_acquire 14 = .ok (.ifCond .ne 5, 3) := by decide +kernel
theorem dX7_acquire_17 : decode cX7_acquire 17 = .ok (.iconst 0, 1) := by decide +kernel
theorem dX7_acquire_18 : decode cX7_acquire 18 = .ok (.ireturn, 1) := by decide +kernel
theorem dX7_acquire_19 : decode cX7_acquire 19 = .ok (.aload_n 0, 1) := by decide +kernel
theorem dX7_acquire_20 : decode cX7_acquire 20 = .ok (.getfield 29, 3) := by decide +kernel
theorem dX7_acquire_23 : decode cX7_acquire 23 = .ok (.aload_n 0, 1) := by decide +kernel
theorem dX7_acquire_24 : decode cX7_acquire 24 = .ok (.getfield 10, 3) := by decide +kernel
theorem dX7_acquire_27 : decode cX7_acquire 27 = .ok (.invokevirtual 245, 3) := by decide +kernel
theorem dX7_acquire_30 : decode cX7_acquire 30 = .ok (.aload_n 0, 1) := by decide +kernel
theorem dX7_acquire_31 : decode cX7_acquire 31 = .ok (.getfield 10, 3) := by decide +kernel
theorem dX7_acquire_34 : decode cX7_acquire 34 = .ok (.getfield 165, 3) := by decide +kernel
theorem dX7_acquire_37 : decode cX7_acquire 37 = .ok (.iload_n 1, 1) := by decide +kernel
theorem dX7_acquire_38 : decode cX7_acquire 38 = .ok (.aaload, 1) := by decide +kernel
theorem dX7_acquire_39 : decode cX7_acquire 39 = .ok (.invokevirtual 264, 3) := by decide +kernel
theorem dX7_acquire_42 : decode cX7_acquire 42 = .ok (.iconst 1, 1) := by decide +kernel
theorem dX7_acquire_43 : decode cX7_acquire 43 = .ok (.ireturn, 1) := by decide +kernel
theorem dX7_compact_0 : decode cX7_compact 0 = .ok (.aload_n 0, 1) := by decide +kernel
theorem dX7_compact_1 : decode cX7_compact 1 = .ok (.getfield 10, 3) := by decide +kernel
theorem dX7_compact_4 : decode cX7_compact 4 = .ok (.iconst 1, 1) := by decide +kernel
theorem dX7_compact_5 : decode cX7_compact 5 = .ok (.invokevirtual 194, 3) := by decide +kernel
theorem dX7_compact_8 : decode cX7_compact 8 = .ok (.istore_n 1, 1) := by decide +kernel
theorem dX7_compact_9 : decode cX7_compact 9 = .ok (.aload_n 0, 1) := by decide +kernel
theorem dX7_compact_10 : decode cX7_compact 10 = .ok (.getfield 16, 3) := by decide +kernel
theorem dX7_compact_13 : decode cX7_compact 13 = .ok (.aload_n 0, 1) := by decide +kernel
theorem dX7_compact_14 : decode cX7_compact 14 = .ok (.getfield 10, 3) := by decide +kernel
theorem dX7_compact_17 : decode cX7_compact 17 = .ok (.invokevirtual 61, 3) := by decide +kernel
theorem dX7_compact_20 : decode cX7_compact 20 = .ok (.aload_n 0, 1) := by decide +kernel
theorem dX7_compact_21 : decode cX7_compact 21 = .ok (.getfield 16, 3) := by decide +kernel
theorem dX7_compact_24 : decode cX7_compact 24 = .ok (.iload_n 1, 1) := by decide +kernel
theorem dX7_compact_25 : decode cX7_compact 25 = .ok (.invokevirtual 242, 3) := by decide +kernel
theorem dX7_compact_28 : decode cX7_compact 28 = .ok (.ifCond .ne 6, 3) := by decide +kernel
theorem dX7_compact_31 : decode cX7_compact 31 = .ok (.bipush (-3), 2) := by decide +kernel
theorem dX7_compact_33 : decode cX7_compact 33 = .ok (.ireturn, 1) := by decide +kernel
theorem dX7_compact_34 : decode cX7_compact 34 = .ok (.aload_n 0, 1) := by decide +kernel
theorem dX7_compact_35 : decode cX7_compact 35 = .ok (.getfield 16, 3) := by decide +kernel
theorem dX7_compact_38 : decode cX7_compact 38 = .ok (.aload_n 0, 1) := by decide +kernel
theorem dX7_compact_39 : decode cX7_compact 39 = .ok (.getfield 16, 3) := by decide +kernel
theorem dX7_compact_42 : decode cX7_compact 42 = .ok (.iconst 0, 1) := by decide +kernel
theorem dX7_compact_43 : decode cX7_compact 43 = .ok (.invokevirtual 194, 3) := by decide +kernel
theorem dX7_compact_46 : decode cX7_compact 46 = .ok (.invokevirtual 252, 3) := by decide +kernel
theorem dX7_compact_49 : decode cX7_compact 49 = .ok (.pop, 1) := by decide +kernel
theorem dX7_compact_50 : decode cX7_compact 50 = .ok (.iconst 0, 1) := by decide +kernel
theorem dX7_compact_51 : decode cX7_compact 51 = .ok (.istore_n 2, 1) := by decide +kernel
theorem dX7_compact_52 : decode cX7_compact 52 = .ok (.iconst 0, 1) := by decide +kernel
theorem dX7_compact_53 : decode cX7_compact 53 = .ok (.istore_n 3, 1) := by decide +kernel
theorem dX7_compact_54 : decode cX7_compact 54 = .ok (.iload_n 3, 1) := by decide +kernel
theorem dX7_compact_55 : decode cX7_compact 55 = .ok (.aload_n 0, 1) := by decide +kernel
theorem dX7_compact_56 : decode cX7_compact 56 = .ok (.getfield 10, 3) := by decide +kernel
theorem dX7_compact_59 : decode cX7_compact 59 = .ok (.getfield 74, 3) := by decide +kernel
theorem dX7_compact_62 : decode cX7_compact 62 = .ok (.if_icmp .ge 52, 3) := by decide +kernel
theorem dX7_compact_65 : decode cX7_compact 65 = .ok (.aload_n 0, 1) := by decide +kernel
theorem dX7_compact_66 : decode cX7_compact 66 = .ok (.getfield 10, 3) := by decide +kernel
theorem dX7_compact_69 : decode cX7_compact 69 = .ok (.getfield 118, 3) := by decide +kernel
theorem dX7_compact_72 : decode cX7_compact 72 = .ok (.iload_n 3, 1) := by decide +kernel
theorem dX7_compact_73 : decode cX7_compact 73 = .ok (.aaload, 1) := by decide +kernel
theorem dX7_compact_74 : decode cX7_compact 74 = .ok (.getfield 122, 3) := by decide +kernel
theorem dX7_compact_77 : decode cX7_compact 77 = .ok (.iconst 1, 1) := by decide +kernel
theorem dX7_compact_78 : decode cX7_compact 78 = .ok (.if_icmp .ne 30, 3) := by decide +kernel
theorem dX7_compact_81 : decode cX7_compact 81 = .ok (.aload_n 0, 1) := by decide +kernel
theorem dX7_compact_82 : decode cX7_compact 82 = .ok (.getfield 10, 3) := by decide +kernel
theorem dX7_compact_85 : decode cX7_compact 85 = .ok (.getfield 118, 3) := by decide +kernel
theorem dX7_compact_88 : decode cX7_compact 88 = .ok (.iload_n 3, 1) := by decide +kernel
theorem dX7_compact_89 : decode cX7_compact 89 = .ok (.aaload, 1) := by decide +kernel
theorem dX7_compact_90 : decode cX7_compact 90 = .ok (.aload_n 0, 1) := by decide +kernel
theorem dX7_compact_91 : decode cX7_compact 91 = .ok (.getfield 16, 3) := by decide +kernel
theorem dX7_compact_94 : decode cX7_compact 94 = .ok (.getfield 118, 3) := by decide +kernel
theorem dX7_compact_97 : decode cX7_compact 97 = .ok (.iload_n 3, 1) := by decide +kernel
theorem dX7_compact_98 : decode cX7_compact 98 = .ok (.aaload, 1) := by decide +kernel
theorem dX7_compact_99 : decode cX7_compact 99 = .ok (.invokevirtual 267, 3) := by decide +kernel
theorem dX7_compact_102 : decode cX7_compact 102 = .ok (.ifCond .ne 6, 3) := by decide +kernel
theorem dX7_compact_105 : decode cX7_compact 105 = .ok (.iinc 2 1, 3) := by decide +kernel
theorem dX7_compact_108 : decode cX7_compact 108 = .ok (.iinc 3 1, 3) := by decide +kernel
theorem dX7_compact_111 : decode cX7_compact 111 = .ok (.goto (-57), 3) := by decide +kernel
theorem dX7_compact_114 : decode cX7_compact 114 = .ok (.aload_n 0, 1) := by decide +kernel
theorem dX7_compact_115 : decode cX7_compact 115 = .ok (.getfield 29, 3) := by decide +kernel
theorem dX7_compact_118 : decode cX7_compact 118 = .ok (.aload_n 0, 1) := by decide +kernel
theorem dX7_compact_119 : decode cX7_compact 119 = .ok (.getfield 10, 3) := by decide +kernel
theorem dX7_compact_122 : decode cX7_compact 122 = .ok (.invokevirtual 245, 3) := by decide +kernel
theorem dX7_compact_125 : decode cX7_compact 125 = .ok (.aload_n 0, 1) := by decide +kernel
theorem dX7_compact_126 : decode cX7_compact 126 = .ok (.getfield 10, 3) := by decide +kernel
theorem dX7_compact_129 : decode cX7_compact 129 = .ok (.aload_n 0, 1) := by decide +kernel
theorem dX7_compact_130 : decode cX7_compact 130 = .ok (.getfield 16, 3) := by decide +kernel
theorem dX7_compact_133 : decode cX7_compact 133 = .ok (.invokevirtual 61, 3) := by decide +kernel
theorem dX7_compact_136 : decode cX7_compact 136 = .ok (.iload_n 2, 1) := by decide +kernel
theorem dX7_compact_137 : decode cX7_compact 137 = .ok (.ireturn, 1) := by decide +kernel
theorem dX7_checkedStation_0 : decode cX7_checkedStation 0 = .ok (.iload_n 1, 1) := by decide +kernel
theorem dX7_checkedStation_1 : decode cX7_checkedStation 1 = .ok (.iconst 0, 1) := by decide +kernel
theorem dX7_checkedStation_2 : decode cX7_checkedStation 2 = .ok (.aload_n 0, 1) := by decide +kernel
theorem dX7_checkedStation_3 : decode cX7_checkedStation 3 = .ok (.getfield 10, 3) := by decide +kernel
theorem dX7_checkedStation_6 : decode cX7_checkedStation 6 = .ok (.getfield 71, 3) := by decide +kernel
theorem dX7_checkedStation_9 : decode cX7_checkedStation 9 = .ok (.iconst 1, 1) := by decide +kernel
theorem dX7_checkedStation_10 : decode cX7_checkedStation 10 = .ok (.isub, 1) := by decide +kernel
theorem dX7_checkedStation_11 : decode cX7_checkedStation 11 = .ok (.invokestatic 86, 3) := by decide +kernel
theorem dX7_checkedStation_14 : decode cX7_checkedStation 14 = .ok (.ifCond .ne 14, 3) := by decide +kernel
theorem dX7_checkedStation_17 : decode cX7_checkedStation 17 = .ok (.new 275, 3) := by decide +kernel
theorem dX7_checkedStation_20 : decode cX7_checkedStation 20 = .ok (.dup, 1) := by decide +kernel
theorem dX7_checkedStation_21 : decode cX7_checkedStation 21 = .ok (.ldc_w 277, 3) := by decide +kernel
theorem dX7_checkedStation_24 : decode cX7_checkedStation 24 = .ok (.invokespecial 279, 3) := by decide +kernel
theorem dX7_checkedStation_27 : decode cX7_checkedStation 27 = .ok (.athrow, 1) := by decide +kernel
theorem dX7_checkedStation_28 : decode cX7_checkedStation 28 = .ok (.aload_n 0, 1) := by decide +kernel
theorem dX7_checkedStation_29 : decode cX7_checkedStation 29 = .ok (.getfield 10, 3) := by decide +kernel
theorem dX7_checkedStation_32 : decode cX7_checkedStation 32 = .ok (.getfield 165, 3) := by decide +kernel
theorem dX7_checkedStation_35 : decode cX7_checkedStation 35 = .ok (.iload_n 1, 1) := by decide +kernel
theorem dX7_checkedStation_36 : decode cX7_checkedStation 36 = .ok (.aaload, 1) := by decide +kernel
theorem dX7_checkedStation_37 : decode cX7_checkedStation 37 = .ok (.areturn, 1) := by decide +kernel
theorem dX7_checkedCall_0 : decode cX7_checkedCall 0 = .ok (.iload_n 1, 1) := by decide +kernel
theorem dX7_checkedCall_1 : decode cX7_checkedCall 1 = .ok (.iconst 0, 1) := by decide +kernel
theorem dX7_checkedCall_2 : decode cX7_checkedCall 2 = .ok (.aload_n 0, 1) := by decide +kernel
theorem dX7_checkedCall_3 : decode cX7_checkedCall 3 = .ok (.getfield 10, 3) := by decide +kernel
theorem dX7_checkedCall_6 : decode cX7_checkedCall 6 = .ok (.getfield 74, 3) := by decide +kernel
theorem dX7_checkedCall_9 : decode cX7_checkedCall 9 = .ok (.iconst 1, 1) := by decide +kernel
theorem dX7_checkedCall_10 : decode cX7_checkedCall 10 = .ok (.isub, 1) := by decide +kernel
theorem dX7_checkedCall_11 : decode cX7_checkedCall 11 = .ok (.invokestatic 86, 3) := by decide +kernel
theorem dX7_checkedCall_14 : decode cX7_checkedCall 14 = .ok (.ifCond .ne 14, 3) := by decide +kernel
theorem dX7_checkedCall_17 : decode cX7_checkedCall 17 = .ok (.new 275, 3) := by decide +kernel
theorem dX7_checkedCall_20 : decode cX7_checkedCall 20 = .ok (.dup, 1) := by decide +kernel
theorem dX7_checkedCall_21 : decode cX7_checkedCall 21 = .ok (.ldc_w 282, 3) := by decide +kernel
theorem dX7_checkedCall_24 : decode cX7_checkedCall 24 = .ok (.invokespecial 279, 3) := by decide +kernel
theorem dX7_checkedCall_27 : decode cX7_checkedCall 27 = .ok (.athrow, 1) := by decide +kernel
theorem dX7_checkedCall_28 : decode cX7_checkedCall 28 = .ok (.aload_n 0, 1) := by decide +kernel
theorem dX7_checkedCall_29 : decode cX7_checkedCall 29 = .ok (.getfield 10, 3) := by decide +kernel
theorem dX7_checkedCall_32 : decode cX7_checkedCall 32 = .ok (.getfield 118, 3) := by decide +kernel
theorem dX7_checkedCall_35 : decode cX7_checkedCall 35 = .ok (.iload_n 1, 1) := by decide +kernel
theorem dX7_checkedCall_36 : decode cX7_checkedCall 36 = .ok (.aaload, 1) := by decide +kernel
theorem dX7_checkedCall_37 : decode cX7_checkedCall 37 = .ok (.areturn, 1) := by decide +kernel
theorem dX7_checkCarrier_0 : decode cX7_checkCarrier 0 = .ok (.iload_n 1, 1) := by decide +kernel
theorem dX7_checkCarrier_1 : decode cX7_checkCarrier 1 = .ok (.iconst 0, 1) := by decide +kernel
theorem dX7_checkCarrier_2 : decode cX7_checkCarrier 2 = .ok (.aload_n 0, 1) := by decide +kernel
theorem dX7_checkCarrier_3 : decode cX7_checkCarrier 3 = .ok (.getfield 10, 3) := by decide +kernel
theorem dX7_checkCarrier_6 : decode cX7_checkCarrier 6 = .ok (.getfield 77, 3) := by decide +kernel
theorem dX7_checkCarrier_9 : decode cX7_checkCarrier 9 = .ok (.iconst 1, 1) := by decide +kernel
theorem dX7_checkCarrier_10 : decode cX7_checkCarrier 10 = .ok (.isub, 1) := by decide +kernel
theorem dX7_checkCarrier_11 : decode cX7_checkCarrier 11 = .ok (.invokestatic 86, 3) := by decide +kernel
theorem dX7_checkCarrier_14 : decode cX7_checkCarrier 14 = .ok (.ifCond .ne 14, 3) := by decide +kernel
theorem dX7_checkCarrier_17 : decode cX7_checkCarrier 17 = .ok (.new 275, 3) := by decide +kernel
theorem dX7_checkCarrier_20 : decode cX7_checkCarrier 20 = .ok (.dup, 1) := by decide +kernel
theorem dX7_checkCarrier_21 : decode cX7_checkCarrier 21 = .ok (.ldc_w 284, 3) := by decide +kernel
theorem dX7_checkCarrier_24 : decode cX7_checkCarrier 24 = .ok (.invokespecial 279, 3) := by decide +kernel
theorem dX7_checkCarrier_27 : decode cX7_checkCarrier 27 = .ok (.athrow, 1) := by decide +kernel
theorem dX7_checkCarrier_28 : decode cX7_checkCarrier 28 = .ok (.return_, 1) := by decide +kernel
theorem dX7_inRange_0 : decode cX7_inRange 0 = .ok (.iload_n 0, 1) := by decide +kernel
theorem dX7_inRange_1 : decode cX7_inRange 1 = .ok (.iload_n 1, 1) := by decide +kernel
theorem dX7_inRange_2 : decode cX7_inRange 2 = .ok (.if_icmp .lt 12, 3) := by decide +kernel
theorem dX7_inRange_5 : decode cX7_inRange 5 = .ok (.iload_n 0, 1) := by decide +kernel
theorem dX7_inRange_6 : decode cX7_inRange 6 = .ok (.iload_n 2, 1) := by decide +kernel
theorem dX7_inRange_7 : decode cX7_inRange 7 = .ok (.if_icmp .gt 7, 3) := by decide +kernel
theorem dX7_inRange_10 : decode cX7_inRange 10 = .ok (.iconst 1, 1) := by decide +kernel
theorem dX7_inRange_11 : decode cX7_inRange 11 = .ok (.goto 4, 3) := by decide +kernel
theorem dX7_inRange_14 : decode cX7_inRange 14 = .ok (.iconst 0, 1) := by decide +kernel
theorem dX7_inRange_15 : decode cX7_inRange 15 = .ok (.ireturn, 1) := by decide +kernel
