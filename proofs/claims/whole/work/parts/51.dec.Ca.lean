theorem dX0_init_0 : decode cX0_init 0 = .ok (.aload_n 0, 1) := by decide +kernel
theorem dX0_init_1 : decode cX0_init 1 = .ok (.invokespecial 3, 3) := by decide +kernel
theorem dX0_init_4 : decode cX0_init 4 = .ok (.aload_n 0, 1) := by decide +kernel
theorem dX0_init_5 : decode cX0_init 5 = .ok (.iconst 5, 1) := by decide +kernel
theorem dX0_init_6 : decode cX0_init 6 = .ok (.anewarray 9, 3) := by decide +kernel
theorem dX0_init_9 : decode cX0_init 9 = .ok (.putfield 11, 3) := by decide +kernel
theorem dX0_init_12 : decode cX0_init 12 = .ok (.aload_n 0, 1) := by decide +kernel
theorem dX0_init_13 : decode cX0_init 13 = .ok (.new 17, 3) := by decide +kernel
theorem dX0_init_16 : decode cX0_init 16 = .ok (.dup, 1) := by decide +kernel
theorem dX0_init_17 : decode cX0_init 17 = .ok (.bipush 48, 2) := by decide +kernel
theorem dX0_init_19 : decode cX0_init 19 = .ok (.invokespecial 19, 3) := by decide +kernel
theorem dX0_init_22 : decode cX0_init 22 = .ok (.putfield 22, 3) := by decide +kernel
theorem dX0_init_25 : decode cX0_init 25 = .ok (.aload_n 0, 1) := by decide +kernel
theorem dX0_init_26 : decode cX0_init 26 = .ok (.bipush 7, 2) := by decide +kernel
theorem dX0_init_28 : decode cX0_init 28 = .ok (.newarray .int, 2) := by decide +kernel
theorem dX0_init_30 : decode cX0_init 30 = .ok (.putfield 26, 3) := by decide +kernel
theorem dX0_init_33 : decode cX0_init 33 = .ok (.aload_n 0, 1) := by decide +kernel
theorem dX0_init_34 : decode cX0_init 34 = .ok (.getstatic 30, 3) := by decide +kernel
theorem dX0_init_37 : decode cX0_init 37 = .ok (.invokevirtual 33, 3) := by decide +kernel
theorem dX0_init_40 : decode cX0_init 40 = .ok (.checkcast 34, 3) := by decide +kernel
theorem dX0_init_43 : decode cX0_init 43 = .ok (.putfield 38, 3) := by decide +kernel
theorem dX0_init_46 : decode cX0_init 46 = .ok (.iconst 0, 1) := by decide +kernel
theorem dX0_init_47 : decode cX0_init 47 = .ok (.istore_n 1, 1) := by decide +kernel
theorem dX0_init_48 : decode cX0_init 48 = .ok (.iload_n 1, 1) := by decide +kernel
theorem dX0_init_49 : decode cX0_init 49 = .ok (.iconst 5, 1) := by decide +kernel
theorem dX0_init_50 : decode cX0_init 50 = .ok (.if_icmp .ge 23, 3) := by decide +kernel
theorem dX0_init_53 : decode cX0_init 53 = .ok (.aload_n 0, 1) := by decide +kernel
theorem dX0_init_54 : decode cX0_init 54 = .ok (.getfield 11, 3) := by decide +kernel
theorem dX0_init_57 : decode cX0_init 57 = .ok (.iload_n 1, 1) := by decide +kernel
theorem dX0_init_58 : decode cX0_init 58 = .ok (.new 9, 3) := by decide +kernel
theorem dX0_init_61 : decode cX0_init 61 = .ok (.dup, 1) := by decide +kernel
theorem dX0_init_62 : decode cX0_init 62 = .ok (.iload_n 1, 1) := by decide +kernel
theorem dX0_init_63 : decode cX0_init 63 = .ok (.invokespecial 41, 3) := by decide +kernel
theorem dX0_init_66 : decode cX0_init 66 = .ok (.aastore, 1) := by decide +kernel
theorem dX0_init_67 : decode cX0_init 67 = .ok (.iinc 1 1, 3) := by decide +kernel
theorem dX0_init_70 : decode cX0_init 70 = .ok (.goto (-22), 3) := by decide +kernel
theorem dX0_init_73 : decode cX0_init 73 = .ok (.return_, 1) := by decide +kernel
theorem dX0_laneAt_0 : decode cX0_laneAt 0 = .ok (.iload_n 1, 1) := by decide +kernel
theorem dX0_laneAt_1 : decode cX0_laneAt 1 = .ok (.ifCond .lt 8, 3) := by decide +kernel
theorem dX0_laneAt_4 : decode cX0_laneAt 4 = .ok (.iload_n 1, 1) := by decide +kernel
theorem dX0_laneAt_5 : decode cX0_laneAt 5 = .ok (.iconst 5, 1) := by decide +kernel
theorem dX0_laneAt_6 : decode cX0_laneAt 6 = .ok (.if_icmp .lt 7, 3) := by decide +kernel
theorem dX0_laneAt_9 : decode cX0_laneAt 9 = .ok (.aconst_null, 1) := by decide +kernel
theorem dX0_laneAt_10 : decode cX0_laneAt 10 = .ok (.goto 9, 3) := by decide +kernel
theorem dX0_laneAt_13 : decode cX0_laneAt 13 = .ok (.aload_n 0, 1) := by decide +kernel
theorem dX0_laneAt_14 : decode cX0_laneAt 14 = .ok (.getfield 11, 3) := by decide +kernel
theorem dX0_laneAt_17 : decode cX0_laneAt 17 = .ok (.iload_n 1, 1) := by decide +kernel
theorem dX0_laneAt_18 : decode cX0_laneAt 18 = .ok (.aaload, 1) := by decide +kernel
theorem dX0_laneAt_19 : decode cX0_laneAt 19 = .ok (.areturn, 1) := by decide +kernel
theorem dX0_hasRoomIn_0 : decode cX0_hasRoomIn 0 = .ok (.aload_n 1, 1) := by decide +kernel
theorem dX0_hasRoomIn_1 : decode cX0_hasRoomIn 1 = .ok (.invokevirtual 42, 3) := by decide +kernel
theorem dX0_hasRoomIn_4 : decode cX0_hasRoomIn 4 = .ok (.ifCond .eq 23, 3) := by decide +kernel
theorem dX0_hasRoomIn_7 : decode cX0_hasRoomIn 7 = .ok (.aload_n 0, 1) := by decide +kernel
theorem dX0_hasRoomIn_8 : decode cX0_hasRoomIn 8 = .ok (.getfield 22, 3) := by decide +kernel
theorem dX0_hasRoomIn_11 : decode cX0_hasRoomIn 11 = .ok (.getfield 46, 3) := by decide +kernel
theorem dX0_hasRoomIn_14 : decode cX0_hasRoomIn 14 = .ok (.aload_n 0, 1) := by decide +kernel
theorem dX0_hasRoomIn_15 : decode cX0_hasRoomIn 15 = .ok (.getfield 38, 3) := by decide +kernel
theorem dX0_hasRoomIn_18 : decode cX0_hasRoomIn 18 = .ok (.iconst 4, 1) := by decide +kernel
theorem dX0_hasRoomIn_19 : decode cX0_hasRoomIn 19 = .ok (.iaload, 1) := by decide +kernel
theorem dX0_hasRoomIn_20 : decode cX0_hasRoomIn 20 = .ok (.if_icmp .ge 7, 3) := by decide +kernel
theorem dX0_hasRoomIn_23 : decode cX0_hasRoomIn 23 = .ok (.iconst 1, 1) := by decide +kernel
theorem dX0_hasRoomIn_24 : decode cX0_hasRoomIn 24 = .ok (.goto 4, 3) := by decide +kernel
theorem dX0_hasRoomIn_27 : decode cX0_hasRoomIn 27 = .ok (.iconst 0, 1) := by decide +kernel
theorem dX0_hasRoomIn_28 : decode cX0_hasRoomIn 28 = .ok (.ireturn, 1) := by decide +kernel
theorem dX0_theLane_0 : decode cX0_theLane 0 = .ok (.aconst_null, 1) := by decide +kernel
theorem dX0_theLane_1 : decode cX0_theLane 1 = .ok (.astore_n 2, 1) := by decide +kernel
theorem dX0_theLane_2 : decode cX0_theLane 2 = .ok (.aload_n 0, 1) := by decide +kernel
theorem dX0_theLane_3 : decode cX0_theLane 3 = .ok (.getfield 11, 3) := by decide +kernel
theorem dX0_theLane_6 : decode cX0_theLane 6 = .ok (.astore_n 3, 1) := by decide +kernel
theorem dX0_theLane_7 : decode cX0_theLane 7 = .ok (.aload_n 3, 1) := by decide +kernel
theorem dX0_theLane_8 : decode cX0_theLane 8 = .ok (.arraylength, 1) := by decide +kernel
theorem dX0_theLane_9 : decode cX0_theLane 9 = .ok (.istore 4, 2) := by decide +kernel
theorem dX0_theLane_11 : decode cX0_theLane 11 = .ok (.iconst 0, 1) := by decide +kernel
theorem dX0_theLane_12 : decode cX0_theLane 12 = .ok (.istore 5, 2) := by decide +kernel
theorem dX0_theLane_14 : decode cX0_theLane 14 = .ok (.iload 5, 2) := by decide +kernel
theorem dX0_theLane_16 : decode cX0_theLane 16 = .ok (.iload 4, 2) := by decide +kernel
theorem dX0_theLane_18 : decode cX0_theLane 18 = .ok (.if_icmp .ge 71, 3) := by decide +kernel
theorem dX0_theLane_21 : decode cX0_theLane 21 = .ok (.aload_n 3, 1) := by decide +kernel
theorem dX0_theLane_22 : decode cX0_theLane 22 = .ok (.iload 5, 2) := by decide +kernel
theorem dX0_theLane_24 : decode cX0_theLane 24 = .ok (.aaload, 1) := by decide +kernel
theorem dX0_theLane_25 : decode cX0_theLane 25 = .ok (.astore 6, 2) := by decide +kernel
theorem dX0_theLane_27 : decode cX0_theLane 27 = .ok (.aload 6, 2) := by decide +kernel
theorem dX0_theLane_29 : decode cX0_theLane 29 = .ok (.getfield 50, 3) := by decide +kernel
theorem dX0_theLane_32 : decode cX0_theLane 32 = .ok (.ifCond .le 24, 3) := by decide +kernel
theorem dX0_theLane_35 : decode cX0_theLane 35 = .ok (.iload_n 1, 1) := by decide +kernel
theorem dX0_theLane_36 : decode cX0_theLane 36 = .ok (.ifCond .eq 16, 3) := by decide +kernel
theorem dX0_theLane_39 : decode cX0_theLane 39 = .ok (.aload 6, 2) := by decide +kernel
theorem dX0_theLane_41 : decode cX0_theLane 41 = .ok (.getfield 53, 3) := by decide +kernel
theorem dX0_theLane_44 : decode cX0_theLane 44 = .ok (.aload 6, 2) := by decide +kernel
theorem dX0_theLane_46 : decode cX0_theLane 46 = .ok (.getfield 56, 3) := by decide +kernel
theorem dX0_theLane_49 : decode cX0_theLane 49 = .ok (.if_icmp .ge 7, 3) := by decide +kernel
theorem dX0_theLane_52 : decode cX0_theLane 52 = .ok (.iconst 1, 1) := by decide +kernel
theorem dX0_theLane_53 : decode cX0_theLane 53 = .ok (.goto 4, 3) := by decide +kernel
theorem dX0_theLane_56 : decode cX0_theLane 56 = .ok (.iconst 0, 1) := by decide +kernel
theorem dX0_theLane_57 : decode cX0_theLane 57 = .ok (.istore 7, 2) := by decide +kernel
theorem dX0_theLane_59 : decode cX0_theLane 59 = .ok (.iload 7, 2) := by decide +kernel
theorem dX0_theLane_61 : decode cX0_theLane 61 = .ok (.ifCond .eq 22, 3) := by decide +kernel
theorem dX0_theLane_64 : decode cX0_theLane 64 = .ok (.aload_n 2, 1) := by decide +kernel
theorem dX0_theLane_65 : decode cX0_theLane 65 = .ok (.ifnull 15, 3) := by decide +kernel
theorem dX0_theLane_68 : decode cX0_theLane 68 = .ok (.aload 6, 2) := by decide +kernel
theorem dX0_theLane_70 : decode cX0_theLane 70 = .ok (.getfield 59, 3) := by decide +kernel
theorem dX0_theLane_73 : decode cX0_theLane 73 = .ok (.aload_n 2, 1) := by decide +kernel
theorem dX0_theLane_74 : decode cX0_theLane 74 = .ok (.getfield 59, 3) := by decide +kernel
theorem dX0_theLane_77 : decode cX0_theLane 77 = .ok (.if_icmp .ge 6, 3) := by decide +kernel
theorem dX0_theLane_80 : decode cX0_theLane 80 = .ok (.aload 6, 2) := by decide +kernel
theorem dX0_theLane_82 : decode cX0_theLane 82 = .ok (.astore_n 2, 1) := by decide +kernel
theorem dX0_theLane_83 : decode cX0_theLane 83 = .ok (.iinc 5 1, 3) := by decide +kernel
theorem dX0_theLane_86 : decode cX0_theLane 86 = .ok (.goto (-72), 3) := by decide +kernel
theorem dX0_theLane_89 : decode cX0_theLane 89 = .ok (.aload_n 2, 1) := by decide +kernel
theorem dX0_theLane_90 : decode cX0_theLane 90 = .ok (.areturn, 1) := by decide +kernel
theorem dX0_greatestPass_0 : decode cX0_greatestPass 0 = .ok (.aconst_null, 1) := by decide +kernel
theorem dX0_greatestPass_1 : decode cX0_greatestPass 1 = .ok (.astore_n 1, 1) := by decide +kernel
theorem dX0_greatestPass_2 : decode cX0_greatestPass 2 = .ok (.aload_n 0, 1) := by decide +kernel
theorem dX0_greatestPass_3 : decode cX0_greatestPass 3 = .ok (.getfield 11, 3) := by decide +kernel
theorem dX0_greatestPass_6 : decode cX0_greatestPass 6 = .ok (.astore_n 2, 1) := by decide +kernel
theorem dX0_greatestPass_7 : decode cX0_greatestPass 7 = .ok (.aload_n 2, 1) := by decide +kernel
theorem dX0_greatestPass_8 : decode cX0_greatestPass 8 = .ok (.arraylength, 1) := by decide +kernel
theorem dX0_greatestPass_9 : decode cX0_greatestPass 9 = .ok (.istore_n 3, 1) := by decide +kernel
theorem dX0_greatestPass_10 : decode cX0_greatestPass 10 = .ok (.iconst 0, 1) := by decide +kernel
theorem dX0_greatestPass_11 : decode cX0_greatestPass 11 = .ok (.istore 4, 2) := by decide +kernel
theorem dX0_greatestPass_13 : decode cX0_greatestPass 13 = .ok (.iload 4, 2) := by decide +kernel
theorem dX0_greatestPass_15 : decode cX0_greatestPass 15 = .ok (.iload_n 3, 1) := by decide +kernel
theorem dX0_greatestPass_16 : decode cX0_greatestPass 16 = .ok (.if_icmp .ge 42, 3) := by decide +kernel
theorem dX0_greatestPass_19 : decode cX0_greatestPass 19 = .ok (.aload_n 2, 1) := by decide +kernel
theorem dX0_greatestPass_20 : decode cX0_greatestPass 20 = .ok (.iload 4, 2) := by decide +kernel
theorem dX0_greatestPass_22 : decode cX0_greatestPass 22 = .ok (.aaload, 1) := by decide +kernel
theorem dX0_greatestPass_23 : decode cX0_greatestPass 23 = .ok (.astore 5, 2) := by decide +kernel
theorem dX0_greatestPass_25 : decode cX0_greatestPass 25 = .ok (.aload 5, 2) := by decide +kernel
theorem dX0_greatestPass_27 : decode cX0_greatestPass 27 = .ok (.getfield 50, 3) := by decide +kernel
theorem dX0_greatestPass_30 : decode cX0_greatestPass 30 = .ok (.ifCond .le 22, 3) := by decide +kernel
theorem dX0_greatestPass_33 : decode cX0_greatestPass 33 = .ok (.aload_n 1, 1) := by decide +kernel
theorem dX0_greatestPass_34 : decode cX0_greatestPass 34 = .ok (.ifnull 15, 3) := by decide +kernel
theorem dX0_greatestPass_37 : decode cX0_greatestPass 37 = .ok (.aload 5, 2) := by decide +kernel
theorem dX0_greatestPass_39 : decode cX0_greatestPass 39 = .ok (.getfield 59, 3) := by decide +kernel
theorem dX0_greatestPass_42 : decode cX0_greatestPass 42 = .ok (.aload_n 1, 1) := by decide +kernel
theorem dX0_greatestPass_43 : decode cX0_greatestPass 43 = .ok (.getfield 59, 3) := by decide +kernel
theorem dX0_greatestPass_46 : decode cX0_greatestPass 46 = .ok (.if_icmp .le 6, 3) := by decide +kernel
theorem dX0_greatestPass_49 : decode cX0_greatestPass 49 = .ok (.aload 5, 2) := by decide +kernel
theorem dX0_greatestPass_51 : decode cX0_greatestPass 51 = .ok (.astore_n 1, 1) := by decide +kernel
theorem dX0_greatestPass_52 : decode cX0_greatestPass 52 = .ok (.iinc 4 1, 3) := by decide +kernel
theorem dX0_greatestPass_55 : decode cX0_greatestPass 55 = .ok (.goto (-42), 3) := by decide +kernel
theorem dX0_greatestPass_58 : decode cX0_greatestPass 58 = .ok (.aload_n 1, 1) := by decide +kernel
theorem dX0_greatestPass_59 : decode cX0_greatestPass 59 = .ok (.areturn, 1) := by decide +kernel
theorem dX0_liveLanes_0 : decode cX0_liveLanes 0 = .ok (.iconst 0, 1) := by decide +kernel
theorem dX0_liveLanes_1 : decode cX0_liveLanes 1 = .ok (.istore_n 1, 1) := by decide +kernel
theorem dX0_liveLanes_2 : decode cX0_liveLanes 2 = .ok (.aload_n 0, 1) := by decide +kernel
theorem dX0_liveLanes_3 : decode cX0_liveLanes 3 = .ok (.getfield 11, 3) := by decide +kernel
theorem dX0_liveLanes_6 : decode cX0_liveLanes 6 = .ok (.astore_n 2, 1) := by decide +kernel
theorem dX0_liveLanes_7 : decode cX0_liveLanes 7 = .ok (.aload_n 2, 1) := by decide +kernel
theorem dX0_liveLanes_8 : decode cX0_liveLanes 8 = .ok (.arraylength, 1) := by decide +kernel
theorem dX0_liveLanes_9 : decode cX0_liveLanes 9 = .ok (.istore_n 3, 1) := by decide +kernel
theorem dX0_liveLanes_10 : decode cX0_liveLanes 10 = .ok (.iconst 0, 1) := by decide +kernel
theorem dX0_liveLanes_11 : decode cX0_liveLanes 11 = .ok (.istore 4, 2) := by decide +kernel
theorem dX0_liveLanes_13 : decode cX0_liveLanes 13 = .ok (.iload 4, 2) := by decide +kernel
theorem dX0_liveLanes_15 : decode cX0_liveLanes 15 = .ok (.iload_n 3, 1) := by decide +kernel
theorem dX0_liveLanes_16 : decode cX0_liveLanes 16 = .ok (.if_icmp .ge 26, 3) := by decide +kernel
theorem dX0_liveLanes_19 : decode cX0_liveLanes 19 = .ok (.aload_n 2, 1) := by decide +kernel
theorem dX0_liveLanes_20 : decode cX0_liveLanes 20 = .ok (.iload 4, 2) := by decide +kernel
theorem dX0_liveLanes_22 : decode cX0_liveLanes 22 = .ok (.aaload, 1) := by decide +kernel
theorem dX0_liveLanes_23 : decode cX0_liveLanes 23 = .ok (.astore 5, 2) := by decide +kernel
theorem dX0_liveLanes_25 : decode cX0_liveLanes 25 = .ok (.aload 5, 2) := by decide +kernel
theorem dX0_liveLanes_27 : decode cX0_liveLanes 27 = .ok (.getfield 50, 3) := by decide +kernel
theorem dX0_liveLanes_30 : decode cX0_liveLanes 30 = .ok (.ifCond .le 6, 3) := by decide +kernel
theorem dX0_liveLanes_33 : decode cX0_liveLanes 33 = .ok (.iinc 1 1, 3) := by decide +kernel
theorem dX0_liveLanes_36 : decode cX0_liveLanes 36 = .ok (.iinc 4 1, 3) := by decide +kernel
theorem dX0_liveLanes_39 : decode cX0_liveLanes 39 = .ok (.goto (-26), 3) := by decide +kernel
theorem dX0_liveLanes_42 : decode cX0_liveLanes 42 = .ok (.iload_n 1, 1) := by decide +kernel
theorem dX0_liveLanes_43 : decode cX0_liveLanes 43 = .ok (.ireturn, 1) := by decide +kernel
theorem dX0_takenSizes_0 : decode cX0_takenSizes 0 = .ok (.iconst 0, 1) := by decide +kernel
theorem dX0_takenSizes_1 : decode cX0_takenSizes 1 = .ok (.istore_n 1, 1) := by decide +kernel
theorem dX0_takenSizes_2 : decode cX0_takenSizes 2 = .ok (.aload_n 0, 1) := by decide +kernel
theorem dX0_takenSizes_3 : decode cX0_takenSizes 3 = .ok (.getfield 11, 3) := by decide +kernel
theorem dX0_takenSizes_6 : decode cX0_takenSizes 6 = .ok (.astore_n 2, 1) := by decide +kernel
theorem dX0_takenSizes_7 : decode cX0_takenSizes 7 = .ok (.aload_n 2, 1) := by decide +kernel
theorem dX0_takenSizes_8 : decode cX0_takenSizes 8 = .ok (.arraylength, 1) := by decide +kernel
theorem dX0_takenSizes_9 : decode cX0_takenSizes 9 = .ok (.istore_n 3, 1) := by decide +kernel
theorem dX0_takenSizes_10 : decode cX0_takenSizes 10 = .ok (.iconst 0, 1) := by decide +kernel
theorem dX0_takenSizes_11 : decode cX0_takenSizes 11 = .ok (.istore 4, 2) := by decide +kernel
theorem dX0_takenSizes_13 : decode cX0_takenSizes 13 = .ok (.iload 4, 2) := by decide +kernel
theorem dX0_takenSizes_15 : decode cX0_takenSizes 15 = .ok (.iload_n 3, 1) := by decide +kernel
theorem dX0_takenSizes_16 : decode cX0_takenSizes 16 = .ok (.if_icmp .ge 23, 3) := by decide +kernel
theorem dX0_takenSizes_19 : decode cX0_takenSizes 19 = .ok (.aload_n 2, 1) := by decide +kernel
theorem dX0_takenSizes_20 : decode cX0_takenSizes 20 = .ok (.iload 4, 2) := by decide +kernel
theorem dX0_takenSizes_22 : decode cX0_takenSizes 22 = .ok (.aaload, 1) := by decide +kernel
theorem dX0_takenSizes_23 : decode cX0_takenSizes 23 = .ok (.astore 5, 2) := by decide +kernel
theorem dX0_takenSizes_25 : decode cX0_takenSizes 25 = .ok (.iload_n 1, 1) := by decide +kernel
theorem dX0_takenSizes_26 : decode cX0_takenSizes 26 = .ok (.aload 5, 2) := by decide +kernel
theorem dX0_takenSizes_28 : decode cX0_takenSizes 28 = .ok (.getfield 62, 3) := by decide +kernel
theorem dX0_takenSizes_31 : decode cX0_takenSizes 31 = .ok (.iadd, 1) := by decide +kernel
theorem dX0_takenSizes_32 : decode cX0_takenSizes 32 = .ok (.istore_n 1, 1) := by decide +kernel
theorem dX0_takenSizes_33 : decode cX0_takenSizes 33 = .ok (.iinc 4 1, 3) := by decide +kernel
theorem dX0_takenSizes_36 : decode cX0_takenSizes 36 = .ok (.goto (-23), 3) := by decide +kernel
theorem dX0_takenSizes_39 : decode cX0_takenSizes 39 = .ok (.iload_n 1, 1) := by decide +kernel
theorem dX0_takenSizes_40 : decode cX0_takenSizes 40 = .ok (.ireturn, 1) := by decide +kernel
theorem dX0_weights_0 : decode cX0_weights 0 = .ok (.iconst 0, 1) := by decide +kernel
theorem dX0_weights_1 : decode cX0_weights 1 = .ok (.istore_n 1, 1) := by decide +kernel
theorem dX0_weights_2 : decode cX0_weights 2 = .ok (.aload_n 0, 1) := by decide +kernel
theorem dX0_weights_3 : decode cX0_weights 3 = .ok (.getfield 11, 3) := by decide +kernel
theorem dX0_weights_6 : decode cX0_weights 6 = .ok (.astore_n 2, 1) := by decide +kernel
theorem dX0_weights_7 : decode cX0_weights 7 = .ok (.aload_n 2, 1) := by decide +kernel
theorem dX0_weights_8 : decode cX0_weights 8 = .ok (.arraylength, 1) := by decide +kernel
theorem dX0_weights_9 : decode cX0_weights 9 = .ok (.istore_n 3, 1) := by decide +kernel
theorem dX0_weights_10 : decode cX0_weights 10 = .ok (.iconst 0, 1) := by decide +kernel
theorem dX0_weights_11 : decode cX0_weights 11 = .ok (.istore 4, 2) := by decide +kernel
theorem dX0_weights_13 : decode cX0_weights 13 = .ok (.iload 4, 2) := by decide +kernel
theorem dX0_weights_15 : decode cX0_weights 15 = .ok (.iload_n 3, 1) := by decide +kernel
theorem dX0_weights_16 : decode cX0_weights 16 = .ok (.if_icmp .ge 23, 3) := by decide +kernel
theorem dX0_weights_19 : decode cX0_weights 19 = .ok (.aload_n 2, 1) := by decide +kernel
theorem dX0_weights_20 : decode cX0_weights 20 = .ok (.iload 4, 2) := by decide +kernel
theorem dX0_weights_22 : decode cX0_weights 22 = .ok (.aaload, 1) := by decide +kernel
theorem dX0_weights_23 : decode cX0_weights 23 = .ok (.astore 5, 2) := by decide +kernel
theorem dX0_weights_25 : decode cX0_weights 25 = .ok (.iload_n 1, 1) := by decide +kernel
theorem dX0_weights_26 : decode cX0_weights 26 = .ok (.aload 5, 2) := by decide +kernel
theorem dX0_weights_28 : decode cX0_weights 28 = .ok (.getfield 65, 3) := by decide +kernel
theorem dX0_weights_31 : decode cX0_weights 31 = .ok (.iadd, 1) := by decide +kernel
theorem dX0_weights_32 : decode cX0_weights 32 = .ok (.istore_n 1, 1) := by decide +kernel
theorem dX0_weights_33 : decode cX0_weights 33 = .ok (.iinc 4 1, 3) := by decide +kernel
theorem dX0_weights_36 : decode cX0_weights 36 = .ok (.goto (-23), 3) := by decide +kernel
theorem dX0_weights_39 : decode cX0_weights 39 = .ok (.iload_n 1, 1) := by decide +kernel
theorem dX0_weights_40 : decode cX0_weights 40 = .ok (.ireturn, 1) := by decide +kernel
theorem dX0_change_0 : decode cX0_change 0 = .ok (.aload_n 1, 1) := by decide +kernel
theorem dX0_change_1 : decode cX0_change 1 = .ok (.invokevirtual 68, 3) := by decide +kernel
theorem dX0_change_4 : decode cX0_change 4 = .ok (.istore_n 3, 1) := by decide +kernel
theorem dX0_change_5 : decode cX0_change 5 = .ok (.aload_n 0, 1) := by decide +kernel
theorem dX0_change_6 : decode cX0_change 6 = .ok (.aload_n 1, 1) := by decide +kernel
theorem dX0_change_7 : decode cX0_change 7 = .ok (.iconst (-1), 1) := by decide +kernel
theorem dX0_change_8 : decode cX0_change 8 = .ok (.invokevirtual 73, 3) := by decide +kernel
theorem dX0_change_11 : decode cX0_change 11 = .ok (.aload_n 1, 1) := by decide +kernel
theorem dX0_change_12 : decode cX0_change 12 = .ok (.iload_n 2, 1) := by decide +kernel
theorem dX0_change_13 : decode cX0_change 13 = .ok (.putfield 77, 3) := by decide +kernel
theorem dX0_change_16 : decode cX0_change 16 = .ok (.aload_n 0, 1) := by decide +kernel
theorem dX0_change_17 : decode cX0_change 17 = .ok (.aload_n 1, 1) := by decide +kernel
theorem dX0_change_18 : decode cX0_change 18 = .ok (.iconst 1, 1) := by decide +kernel
theorem dX0_change_19 : decode cX0_change 19 = .ok (.invokevirtual 73, 3) := by decide +kernel
theorem dX0_change_22 : decode cX0_change 22 = .ok (.iload_n 3, 1) := by decide +kernel
theorem dX0_change_23 : decode cX0_change 23 = .ok (.ifCond .eq 28, 3) := by decide +kernel
theorem dX0_change_26 : decode cX0_change 26 = .ok (.aload_n 1, 1) := by decide +kernel
theorem dX0_change_27 : decode cX0_change 27 = .ok (.invokevirtual 68, 3) := by decide +kernel
theorem dX0_change_30 : decode cX0_change 30 = .ok (.ifCond .ne 21, 3) := by decide +kernel
theorem dX0_change_33 : decode cX0_change 33 = .ok (.aload_n 0, 1) := by decide +kernel
theorem dX0_change_34 : decode cX0_change 34 = .ok (.getfield 22, 3) := by decide +kernel
theorem dX0_change_37 : decode cX0_change 37 = .ok (.aload_n 1, 1) := by decide +kernel
theorem dX0_change_38 : decode cX0_change 38 = .ok (.invokevirtual 80, 3) := by decide +kernel
theorem dX0_change_41 : decode cX0_change 41 = .ok (.aload_n 1, 1) := by decide +kernel
theorem dX0_change_42 : decode cX0_change 42 = .ok (.getfield 84, 3) := by decide +kernel
theorem dX0_change_45 : decode cX0_change 45 = .ok (.invokevirtual 88, 3) := by decide +kernel
theorem dX0_change_48 : decode cX0_change 48 = .ok (.goto 22, 3) := by decide +kernel
theorem dX0_change_51 : decode cX0_change 51 = .ok (.iload_n 3, 1) := by decide +kernel
theorem dX0_change_52 : decode cX0_change 52 = .ok (.ifCond .ne 18, 3) := by decide +kernel
theorem dX0_change_55 : decode cX0_change 55 = .ok (.aload_n 1, 1) := by decide +kernel
theorem dX0_change_56 : decode cX0_change 56 = .ok (.invokevirtual 68, 3) := by decide +kernel
theorem dX0_change_59 : decode cX0_change 59 = .ok (.ifCond .eq 11, 3) := by decide +kernel
theorem dX0_change_62 : decode cX0_change 62 = .ok (.aload_n 0, 1) := by decide +kernel
theorem dX0_change_63 : decode cX0_change 63 = .ok (.getfield 22, 3) := by decide +kernel
theorem dX0_change_66 : decode cX0_change 66 = .ok (.aload_n 1, 1) := by decide +kernel
theorem dX0_change_67 : decode cX0_change 67 = .ok (.invokevirtual 91, 3) := by decide +kernel
theorem dX0_change_70 : decode cX0_change 70 = .ok (.return_, 1) := by decide +kernel
theorem dX0_count_0 : decode cX0_count 0 = .ok (.aload_n 1, 1) := by decide +kernel
theorem dX0_count_1 : decode cX0_count 1 = .ok (.getfield 77, 3) := by decide +kernel
theorem dX0_count_4 : decode cX0_count 4 = .ok (.ifCond .lt 12, 3) := by decide +kernel
theorem dX0_count_7 : decode cX0_count 7 = .ok (.aload_n 1, 1) := by decide +kernel
theorem dX0_count_8 : decode cX0_count 8 = .ok (.getfield 77, 3) := by decide +kernel
theorem dX0_count_11 : decode cX0_count 11 = .ok (.bipush 7, 2) := by decide +kernel
theorem dX0_count_13 : decode cX0_count 13 = .ok (.if_icmp .lt 4, 3) := by decide +kernel
theorem dX0_count_16 : decode cX0_count 16 = .ok (.return_, 1) := by decide +kernel
theorem dX0_count_17 : decode cX0_count 17 = .ok (.aload_n 0, 1) := by decide +kernel
theorem dX0_count_18 : decode cX0_count 18 = .ok (.getfield 26, 3) := by decide +kernel
theorem dX0_count_21 : decode cX0_count 21 = .ok (.aload_n 1, 1) := by decide +kernel
theorem dX0_count_22 : decode cX0_count 22 = .ok (.getfield 77, 3) := by decide +kernel
theorem dX0_count_25 : decode cX0_count 25 = .ok (.dup2, 1) := by decide +kernel
theorem dX0_count_26 : decode cX0_count 26 = .ok (.iaload, 1) := by decide +kernel
theorem dX0_count_27 : decode cX0_count 27 = .ok (.iload_n 2, 1) := by decide +kernel
theorem dX0_count_28 : decode cX0_count 28 = .ok (.iadd, 1) := by decide +kernel
theorem dX0_count_29 : decode cX0_count 29 = .ok (.iastore, 1) := by decide +kernel
theorem dX0_count_30 : decode cX0_count 30 = .ok (.aload_n 1, 1) := by decide +kernel
theorem dX0_count_31 : decode cX0_count 31 = .ok (.getfield 77, 3) := by decide +kernel
theorem dX0_count_34 : decode cX0_count 34 = .ok (.iconst 3, 1) := by decide +kernel
theorem dX0_count_35 : decode cX0_count 35 = .ok (.if_icmp .gt 16, 3) := by decide +kernel
theorem dX0_count_38 : decode cX0_count 38 = .ok (.aload_n 1, 1) := by decide +kernel
theorem dX0_count_39 : decode cX0_count 39 = .ok (.getfield 84, 3) := by decide +kernel
theorem dX0_count_42 : decode cX0_count 42 = .ok (.dup, 1) := by decide +kernel
theorem dX0_count_43 : decode cX0_count 43 = .ok (.getfield 94, 3) := by decide +kernel
theorem dX0_count_46 : decode cX0_count 46 = .ok (.iload_n 2, 1) := by decide +kernel
theorem dX0_count_47 : decode cX0_count 47 = .ok (.iadd, 1) := by decide +kernel
theorem dX0_count_48 : decode cX0_count 48 = .ok (.putfield 94, 3) := by decide +kernel
theorem dX0_count_51 : decode cX0_count 51 = .ok (.aload_n 1, 1) := by decide +kernel
theorem dX0_count_52 : decode cX0_count 52 = .ok (.getfield 77, 3) := by decide +kernel
theorem dX0_count_55 : decode cX0_count 55 = .ok (.ifCond .ne 19, 3) := by decide +kernel
theorem dX0_count_58 : decode cX0_count 58 = .ok (.aload_n 1, 1) := by decide +kernel
theorem dX0_count_59 : decode cX0_count 59 = .ok (.getfield 84, 3) := by decide +kernel
theorem dX0_count_62 : decode cX0_count 62 = .ok (.dup, 1) := by decide +kernel
theorem dX0_count_63 : decode cX0_count 63 = .ok (.getfield 50, 3) := by decide +kernel
theorem dX0_count_66 : decode cX0_count 66 = .ok (.iload_n 2, 1) := by decide +kernel
theorem dX0_count_67 : decode cX0_count 67 = .ok (.iadd, 1) := by decide +kernel
theorem dX0_count_68 : decode cX0_count 68 = .ok (.putfield 50, 3) := by decide +kernel
theorem dX0_count_71 : decode cX0_count 71 = .ok (.goto 24, 3) := by decide +kernel
theorem dX0_count_74 : decode cX0_count 74 = .ok (.aload_n 1, 1) := by decide +kernel
theorem dX0_count_75 : decode cX0_count 75 = .ok (.getfield 77, 3) := by decide +kernel
theorem dX0_count_78 : decode cX0_count 78 = .ok (.iconst 3, 1) := by decide +kernel
theorem dX0_count_79 : decode cX0_count 79 = .ok (.if_icmp .ne 16, 3) := by decide +kernel
theorem dX0_count_82 : decode cX0_count 82 = .ok (.aload_n 1, 1) := by decide +kernel
theorem dX0_count_83 : decode cX0_count 83 = .ok (.getfield 84, 3) := by decide +kernel
theorem dX0_count_86 : decode cX0_count 86 = .ok (.dup, 1) := by decide +kernel
theorem dX0_count_87 : decode cX0_count 87 = .ok (.getfield 53, 3) := by decide +kernel
theorem dX0_count_90 : decode cX0_count 90 = .ok (.iload_n 2, 1) := by decide +kernel
theorem dX0_count_91 : decode cX0_count 91 = .ok (.iadd, 1) := by decide +kernel
theorem dX0_count_92 : decode cX0_count 92 = .ok (.putfield 53, 3) := by decide +kernel
theorem dX0_count_95 : decode cX0_count 95 = .ok (.return_, 1) := by decide +kernel
theorem dX0_settle_0 : decode cX0_settle 0 = .ok (.aload_n 1, 1) := by decide +kernel
theorem dX0_settle_1 : decode cX0_settle 1 = .ok (.getfield 96, 3) := by decide +kernel
theorem dX0_settle_4 : decode cX0_settle 4 = .ok (.ifnull 18, 3) := by decide +kernel
theorem dX0_settle_7 : decode cX0_settle 7 = .ok (.aload_n 1, 1) := by decide +kernel
theorem dX0_settle_8 : decode cX0_settle 8 = .ok (.getfield 96, 3) := by decide +kernel
theorem dX0_settle_11 : decode cX0_settle 11 = .ok (.getfield 77, 3) := by decide +kernel
theorem dX0_settle_14 : decode cX0_settle 14 = .ok (.iconst 4, 1) := by decide +kernel
theorem dX0_settle_15 : decode cX0_settle 15 = .ok (.if_icmp .eq 7, 3) := by decide +kernel
theorem dX0_settle_18 : decode cX0_settle 18 = .ok (.iconst 1, 1) := by decide +kernel
theorem dX0_settle_19 : decode cX0_settle 19 = .ok (.goto 4, 3) := by decide +kernel
theorem dX0_settle_22 : decode cX0_settle 22 = .ok (.iconst 0, 1) := by decide +kernel
theorem dX0_settle_23 : decode cX0_settle 23 = .ok (.istore_n 2, 1) := by decide +kernel
theorem dX0_settle_24 : decode cX0_settle 24 = .ok (.iload_n 2, 1) := by decide +kernel
theorem dX0_settle_25 : decode cX0_settle 25 = .ok (.ifCond .ne 11, 3) := by decide +kernel
theorem dX0_settle_28 : decode cX0_settle 28 = .ok (.aload_n 0, 1) := by decide +kernel
theorem dX0_settle_29 : decode cX0_settle 29 = .ok (.aload_n 1, 1) := by decide +kernel
theorem dX0_settle_30 : decode cX0_settle 30 = .ok (.getfield 84, 3) := by decide +kernel
theorem dX0_settle_33 : decode cX0_settle 33 = .ok (.invokevirtual 100, 3) := by decide +kernel
theorem dX0_settle_36 : decode cX0_settle 36 = .ok (.aload_n 0, 1) := by decide +kernel
theorem dX0_settle_37 : decode cX0_settle 37 = .ok (.aload_n 1, 1) := by decide +kernel
theorem dX0_settle_38 : decode cX0_settle 38 = .ok (.iload_n 2, 1) := by decide +kernel
theorem dX0_settle_39 : decode cX0_settle 39 = .ok (.ifCond .eq 7, 3) := by decide +kernel
theorem dX0_settle_42 : decode cX0_settle 42 = .ok (.iconst 1, 1) := by decide +kernel
theorem dX0_settle_43 : decode cX0_settle 43 = .ok (.goto 4, 3) := by decide +kernel
theorem dX0_settle_46 : decode cX0_settle 46 = .ok (.iconst 0, 1) := by decide +kernel
theorem dX0_settle_47 : decode cX0_settle 47 = .ok (.invokevirtual 104, 3) := by decide +kernel
theorem dX0_settle_50 : decode cX0_settle 50 = .ok (.return_, 1) := by decide +kernel
theorem dX0_awaitTurn_0 : decode cX0_awaitTurn 0 = .ok (.aload_n 0, 1) := by decide +kernel
theorem dX0_awaitTurn_1 : decode cX0_awaitTurn 1 = .ok (.aload_n 1, 1) := by decide +kernel
theorem dX0_awaitTurn_2 : decode cX0_awaitTurn 2 = .ok (.getfield 84, 3) := by decide +kernel
theorem dX0_awaitTurn_5 : decode cX0_awaitTurn 5 = .ok (.invokevirtual 100, 3) := by decide +kernel
theorem dX0_awaitTurn_8 : decode cX0_awaitTurn 8 = .ok (.aload_n 0, 1) := by decide +kernel
theorem dX0_awaitTurn_9 : decode cX0_awaitTurn 9 = .ok (.aload_n 1, 1) := by decide +kernel
theorem dX0_awaitTurn_10 : decode cX0_awaitTurn 10 = .ok (.iconst 0, 1) := by decide +kernel
theorem dX0_awaitTurn_11 : decode cX0_awaitTurn 11 = .ok (.invokevirtual 104, 3) := by decide +kernel
theorem dX0_awaitTurn_14 : decode cX0_awaitTurn 14 = .ok (.return_, 1) := by decide +kernel
theorem dX0_liftPass_0 : decode cX0_liftPass 0 = .ok (.aload_n 0, 1) := by decide +kernel
theorem dX0_liftPass_1 : decode cX0_liftPass 1 = .ok (.iconst 0, 1) := by decide +kernel
theorem dX0_liftPass_2 : decode cX0_liftPass 2 = .ok (.invokevirtual 107, 3) := by decide +kernel
theorem dX0_liftPass_5 : decode cX0_liftPass 5 = .ok (.astore_n 2, 1) := by decide +kernel
theorem dX0_liftPass_6 : decode cX0_liftPass 6 = .ok (.aload_n 1, 1) := by decide +kernel
theorem dX0_liftPass_7 : decode cX0_liftPass 7 = .ok (.getfield 50, 3) := by decide +kernel
theorem dX0_liftPass_10 : decode cX0_liftPass 10 = .ok (.ifCond .ne 22, 3) := by decide +kernel
theorem dX0_liftPass_13 : decode cX0_liftPass 13 = .ok (.aload_n 2, 1) := by decide +kernel
theorem dX0_liftPass_14 : decode cX0_liftPass 14 = .ok (.ifnull 18, 3) := by decide +kernel
theorem dX0_liftPass_17 : decode cX0_liftPass 17 = .ok (.aload_n 1, 1) := by decide +kernel
theorem dX0_liftPass_18 : decode cX0_liftPass 18 = .ok (.aload_n 1, 1) := by decide +kernel
theorem dX0_liftPass_19 : decode cX0_liftPass 19 = .ok (.getfield 59, 3) := by decide +kernel
theorem dX0_liftPass_22 : decode cX0_liftPass 22 = .ok (.aload_n 2, 1) := by decide +kernel
theorem dX0_liftPass_23 : decode cX0_liftPass 23 = .ok (.getfield 59, 3) := by decide +kernel
theorem dX0_liftPass_26 : decode cX0_liftPass 26 = .ok (.invokestatic 111, 3) := by decide +kernel
theorem dX0_liftPass_29 : decode cX0_liftPass 29 = .ok (.putfield 59, 3) := by decide +kernel
theorem dX0_liftPass_32 : decode cX0_liftPass 32 = .ok (.return_, 1) := by decide +kernel
theorem dX0_transfer_0 : decode cX0_transfer 0 = .ok (.aload_n 0, 1) := by decide +kernel
theorem dX0_transfer_1 : decode cX0_transfer 1 = .ok (.aload_n 1, 1) := by decide +kernel
theorem dX0_transfer_2 : decode cX0_transfer 2 = .ok (.iconst (-1), 1) := by decide +kernel
theorem dX0_transfer_3 : decode cX0_transfer 3 = .ok (.invokevirtual 73, 3) := by decide +kernel
theorem dX0_transfer_6 : decode cX0_transfer 6 = .ok (.aload_n 1, 1) := by decide +kernel
theorem dX0_transfer_7 : decode cX0_transfer 7 = .ok (.getfield 84, 3) := by decide +kernel
theorem dX0_transfer_10 : decode cX0_transfer 10 = .ok (.invokevirtual 88, 3) := by decide +kernel
theorem dX0_transfer_13 : decode cX0_transfer 13 = .ok (.aload_n 1, 1) := by decide +kernel
theorem dX0_transfer_14 : decode cX0_transfer 14 = .ok (.aload_n 2, 1) := by decide +kernel
theorem dX0_transfer_15 : decode cX0_transfer 15 = .ok (.putfield 84, 3) := by decide +kernel
theorem dX0_transfer_18 : decode cX0_transfer 18 = .ok (.aload_n 1, 1) := by decide +kernel
theorem dX0_transfer_19 : decode cX0_transfer 19 = .ok (.getfield 77, 3) := by decide +kernel
theorem dX0_transfer_22 : decode cX0_transfer 22 = .ok (.ifCond .ne 8, 3) := by decide +kernel
theorem dX0_transfer_25 : decode cX0_transfer 25 = .ok (.aload_n 0, 1) := by decide +kernel
theorem dX0_transfer_26 : decode cX0_transfer 26 = .ok (.aload_n 2, 1) := by decide +kernel
theorem dX0_transfer_27 : decode cX0_transfer 27 = .ok (.invokevirtual 100, 3) := by decide +kernel
theorem dX0_transfer_30 : decode cX0_transfer 30 = .ok (.aload_n 0, 1) := by decide +kernel
theorem dX0_transfer_31 : decode cX0_transfer 31 = .ok (.aload_n 1, 1) := by decide +kernel
theorem dX0_transfer_32 : decode cX0_transfer 32 = .ok (.iconst 1, 1) := by decide +kernel
theorem dX0_transfer_33 : decode cX0_transfer 33 = .ok (.invokevirtual 73, 3) := by decide +kernel
theorem dX0_transfer_36 : decode cX0_transfer 36 = .ok (.return_, 1) := by decide +kernel
theorem dX0_serve_0 : decode cX0_serve 0 = .ok (.aload_n 0, 1) := by decide +kernel
theorem dX0_serve_1 : decode cX0_serve 1 = .ok (.iload_n 1, 1) := by decide +kernel
theorem dX0_serve_2 : decode cX0_serve 2 = .ok (.invokevirtual 107, 3) := by decide +kernel
theorem dX0_serve_5 : decode cX0_serve 5 = .ok (.astore_n 2, 1) := by decide +kernel
theorem dX0_serve_6 : decode cX0_serve 6 = .ok (.aload_n 2, 1) := by decide +kernel
theorem dX0_serve_7 : decode cX0_serve 7 = .ok (.ifnonnull 7, 3) := by decide +kernel
theorem dX0_serve_10 : decode cX0_serve 10 = .ok (.aconst_null, 1) := by decide +kernel
theorem dX0_serve_11 : decode cX0_serve 11 = .ok (.goto 9, 3) := by decide +kernel
theorem dX0_serve_14 : decode cX0_serve 14 = .ok (.aload_n 0, 1) := by decide +kernel
theorem dX0_serve_15 : decode cX0_serve 15 = .ok (.iconst 0, 1) := by decide +kernel
theorem dX0_serve_16 : decode cX0_serve 16 = .ok (.aload_n 2, 1) := by decide +kernel
theorem dX0_serve_17 : decode cX0_serve 17 = .ok (.invokevirtual 117, 3) := by decide +kernel
theorem dX0_serve_20 : decode cX0_serve 20 = .ok (.astore_n 3, 1) := by decide +kernel
theorem dX0_serve_21 : decode cX0_serve 21 = .ok (.aload_n 3, 1) := by decide +kernel
theorem dX0_serve_22 : decode cX0_serve 22 = .ok (.ifnull 17, 3) := by decide +kernel
theorem dX0_serve_25 : decode cX0_serve 25 = .ok (.aload_n 0, 1) := by decide +kernel
theorem dX0_serve_26 : decode cX0_serve 26 = .ok (.aload_n 3, 1) := by decide +kernel
theorem dX0_serve_27 : decode cX0_serve 27 = .ok (.iconst 3, 1) := by decide +kernel
theorem dX0_serve_28 : decode cX0_serve 28 = .ok (.invokevirtual 104, 3) := by decide +kernel
theorem dX0_serve_31 : decode cX0_serve 31 = .ok (.aload_n 2, 1) := by decide +kernel
theorem dX0_serve_32 : decode cX0_serve 32 = .ok (.aload_n 3, 1) := by decide +kernel
theorem dX0_serve_33 : decode cX0_serve 33 = .ok (.getfield 121, 3) := by decide +kernel
theorem dX0_serve_36 : decode cX0_serve 36 = .ok (.invokevirtual 122, 3) := by decide +kernel
theorem dX0_serve_39 : decode cX0_serve 39 = .ok (.aload_n 3, 1) := by decide +kernel
theorem dX0_serve_40 : decode cX0_serve 40 = .ok (.areturn, 1) := by decide +kernel
theorem dX0_orderOf_0 : decode cX0_orderOf 0 = .ok (.aload_n 1, 1) := by decide +kernel
theorem dX0_orderOf_1 : decode cX0_orderOf 1 = .ok (.getfield 77, 3) := by decide +kernel
theorem dX0_orderOf_4 : decode cX0_orderOf 4 = .ok (.iconst 2, 1) := by decide +kernel
theorem dX0_orderOf_5 : decode cX0_orderOf 5 = .ok (.if_icmp .ne 8, 3) := by decide +kernel
theorem dX0_orderOf_8 : decode cX0_orderOf 8 = .ok (.aload_n 1, 1) := by decide +kernel
theorem dX0_orderOf_9 : decode cX0_orderOf 9 = .ok (.getfield 125, 3) := by decide +kernel
theorem dX0_orderOf_12 : decode cX0_orderOf 12 = .ok (.ireturn, 1) := by decide +kernel
theorem dX0_orderOf_13 : decode cX0_orderOf 13 = .ok (.aload_n 1, 1) := by decide +kernel
theorem dX0_orderOf_14 : decode cX0_orderOf 14 = .ok (.getfield 77, 3) := by decide +kernel
theorem dX0_orderOf_17 : decode cX0_orderOf 17 = .ok (.iconst 3, 1) := by decide +kernel
theorem dX0_orderOf_18 : decode cX0_orderOf 18 = .ok (.if_icmp .ne 10, 3) := by decide +kernel
theorem dX0_orderOf_21 : decode cX0_orderOf 21 = .ok (.aload_n 1, 1) := by decide +kernel
theorem dX0_orderOf_22 : decode cX0_orderOf 22 = .ok (.getfield 128, 3) := by decide +kernel
theorem dX0_orderOf_25 : decode cX0_orderOf 25 = .ok (.goto 14, 3) := by decide +kernel
theorem dX0_orderOf_28 : decode cX0_orderOf 28 = .ok (.aload_n 1, 1) := by decide +kernel
theorem dX0_orderOf_29 : decode cX0_orderOf 29 = .ok (.aload_n 0, 1) := by decide +kernel
theorem dX0_orderOf_30 : decode cX0_orderOf 30 = .ok (.getfield 38, 3) := by decide +kernel
theorem dX0_orderOf_33 : decode cX0_orderOf 33 = .ok (.iconst 0, 1) := by decide +kernel
theorem dX0_orderOf_34 : decode cX0_orderOf 34 = .ok (.iaload, 1) := by decide +kernel
theorem dX0_orderOf_35 : decode cX0_orderOf 35 = .ok (.invokevirtual 131, 3) := by decide +kernel
theorem dX0_orderOf_38 : decode cX0_orderOf 38 = .ok (.ineg, 1) := by decide +kernel
theorem dX0_orderOf_39 : decode cX0_orderOf 39 = .ok (.ireturn, 1) := by decide +kernel
theorem dX0_isAhead_0 : decode cX0_isAhead 0 = .ok (.aload_n 0, 1) := by decide +kernel
theorem dX0_isAhead_1 : decode cX0_isAhead 1 = .ok (.aload_n 1, 1) := by decide +kernel
theorem dX0_isAhead_2 : decode cX0_isAhead 2 = .ok (.invokevirtual 135, 3) := by decide +kernel
theorem dX0_isAhead_5 : decode cX0_isAhead 5 = .ok (.istore_n 3, 1) := by decide +kernel
theorem dX0_isAhead_6 : decode cX0_isAhead 6 = .ok (.aload_n 0, 1) := by decide +kernel
theorem dX0_isAhead_7 : decode cX0_isAhead 7 = .ok (.aload_n 2, 1) := by decide +kernel
theorem dX0_isAhead_8 : decode cX0_isAhead 8 = .ok (.invokevirtual 135, 3) := by decide +kernel
theorem dX0_isAhead_11 : decode cX0_isAhead 11 = .ok (.istore 4, 2) := by decide +kernel
theorem dX0_isAhead_13 : decode cX0_isAhead 13 = .ok (.iload_n 3, 1) := by decide +kernel
theorem dX0_isAhead_14 : decode cX0_isAhead 14 = .ok (.iload 4, 2) := by decide +kernel
theorem dX0_isAhead_16 : decode cX0_isAhead 16 = .ok (.if_icmp .lt 20, 3) := by decide +kernel
theorem dX0_isAhead_19 : decode cX0_isAhead 19 = .ok (.iload_n 3, 1) := by decide +kernel
theorem dX0_isAhead_20 : decode cX0_isAhead 20 = .ok (.iload 4, 2) := by decide +kernel
theorem dX0_isAhead_22 : decode cX0_isAhead 22 = .ok (.if_icmp .ne 18, 3) := by decide +kernel
theorem dX0_isAhead_25 : decode cX0_isAhead 25 = .ok (.aload_n 1, 1) := by decide +kernel
theorem dX0_isAhead_26 : decode cX0_isAhead 26 = .ok (.getfield 139, 3) := by decide +kernel
theorem dX0_isAhead_29 : decode cX0_isAhead 29 = .ok (.aload_n 2, 1) := by decide +kernel
theorem dX0_isAhead_30 : decode cX0_isAhead 30 = .ok (.getfield 139, 3) := by decide +kernel
theorem dX0_isAhead_33 : decode cX0_isAhead 33 = .ok (.if_icmp .ge 7, 3) := by decide +kernel
theorem dX0_isAhead_36 : decode cX0_isAhead 36 = .ok (.iconst 1, 1) := by decide +kernel
theorem dX0_isAhead_37 : decode cX0_isAhead 37 = .ok (.goto 4, 3) := by decide +kernel
theorem dX0_isAhead_40 : decode cX0_isAhead 40 = .ok (.iconst 0, 1) := by decide +kernel
theorem dX0_isAhead_41 : decode cX0_isAhead 41 = .ok (.ireturn, 1) := by decide +kernel
theorem dX0_isOf_0 : decode cX0_isOf 0 = .ok (.aload_n 0, 1) := by decide +kernel
theorem dX0_isOf_1 : decode cX0_isOf 1 = .ok (.getfield 77, 3) := by decide +kernel
theorem dX0_isOf_4 : decode cX0_isOf 4 = .ok (.iload_n 1, 1) := by decide +kernel
theorem dX0_isOf_5 : decode cX0_isOf 5 = .ok (.if_icmp .ne 19, 3) := by decide +kernel
theorem dX0_isOf_8 : decode cX0_isOf 8 = .ok (.aload_n 2, 1) := by decide +kernel
theorem dX0_isOf_9 : decode cX0_isOf 9 = .ok (.ifnull 11, 3) := by decide +kernel
theorem dX0_isOf_12 : decode cX0_isOf 12 = .ok (.aload_n 0, 1) := by decide +kernel
theorem dX0_isOf_13 : decode cX0_isOf 13 = .ok (.getfield 84, 3) := by decide +kernel
theorem dX0_isOf_16 : decode cX0_isOf 16 = .ok (.aload_n 2, 1) := by decide +kernel
theorem dX0_isOf_17 : decode cX0_isOf 17 = .ok (.if_acmp .ne 7, 3) := by decide +kernel
theorem dX0_isOf_20 : decode cX0_isOf 20 = .ok (.iconst 1, 1) := by decide +kernel
theorem dX0_isOf_21 : decode cX0_isOf 21 = .ok (.goto 4, 3) := by decide +kernel
theorem dX0_isOf_24 : decode cX0_isOf 24 = .ok (.iconst 0, 1) := by decide +kernel
theorem dX0_isOf_25 : decode cX0_isOf 25 = .ok (.ireturn, 1) := by decide +kernel
theorem dX0_least_0 : decode cX0_least 0 = .ok (.aconst_null, 1) := by decide +kernel
theorem dX0_least_1 : decode cX0_least 1 = .ok (.astore_n 3, 1) := by decide +kernel
theorem dX0_least_2 : decode cX0_least 2 = .ok (.iconst 0, 1) := by decide +kernel
theorem dX0_least_3 : decode cX0_least 3 = .ok (.istore 4, 2) := by decide +kernel
theorem dX0_least_5 : decode cX0_least 5 = .ok (.iconst 0, 1) := by decide +kernel
theorem dX0_least_6 : decode cX0_least 6 = .ok (.istore 5, 2) := by decide +kernel
theorem dX0_least_8 : decode cX0_least 8 = .ok (.iload 5, 2) := by decide +kernel
theorem dX0_least_10 : decode cX0_least 10 = .ok (.aload_n 0, 1) := by decide +kernel
theorem dX0_least_11 : decode cX0_least 11 = .ok (.getfield 22, 3) := by decide +kernel
theorem dX0_least_14 : decode cX0_least 14 = .ok (.getfield 46, 3) := by decide +kernel
theorem dX0_least_17 : decode cX0_least 17 = .ok (.if_icmp .ge 60, 3) := by decide +kernel
theorem dX0_least_20 : decode cX0_least 20 = .ok (.aload_n 0, 1) := by decide +kernel
theorem dX0_least_21 : decode cX0_least 21 = .ok (.getfield 22, 3) := by decide +kernel
theorem dX0_least_24 : decode cX0_least 24 = .ok (.getfield 142, 3) := by decide +kernel
theorem dX0_least_27 : decode cX0_least 27 = .ok (.iload 5, 2) := by decide +kernel
theorem dX0_least_29 : decode cX0_least 29 = .ok (.aaload, 1) := by decide +kernel
theorem dX0_least_30 : decode cX0_least 30 = .ok (.astore 6, 2) := by decide +kernel
theorem dX0_least_32 : decode cX0_least 32 = .ok (.aload 6, 2) := by decide +kernel
theorem dX0_least_34 : decode cX0_least 34 = .ok (.iload_n 1, 1) := by decide +kernel
theorem dX0_least_35 : decode cX0_least 35 = .ok (.aload_n 2, 1) := by decide +kernel
theorem dX0_least_36 : decode cX0_least 36 = .ok (.invokestatic 146, 3) := by decide +kernel
theorem dX0_least_39 : decode cX0_least 39 = .ok (.ifCond .ne 6, 3) := by decide +kernel
theorem dX0_least_42 : decode cX0_least 42 = .ok (.goto 29, 3) := by decide +kernel
theorem dX0_least_45 : decode cX0_least 45 = .ok (.aload_n 0, 1) := by decide +kernel
theorem dX0_least_46 : decode cX0_least 46 = .ok (.aload 6, 2) := by decide +kernel
theorem dX0_least_48 : decode cX0_least 48 = .ok (.invokevirtual 135, 3) := by decide +kernel
theorem dX0_least_51 : decode cX0_least 51 = .ok (.istore 7, 2) := by decide +kernel
theorem dX0_least_53 : decode cX0_least 53 = .ok (.aload_n 3, 1) := by decide +kernel
theorem dX0_least_54 : decode cX0_least 54 = .ok (.ifnull 10, 3) := by decide +kernel
theorem dX0_least_57 : decode cX0_least 57 = .ok (.iload 7, 2) := by decide +kernel
theorem dX0_least_59 : decode cX0_least 59 = .ok (.iload 4, 2) := by decide +kernel
theorem dX0_least_61 : decode cX0_least 61 = .ok (.if_icmp .ge 10, 3) := by decide +kernel
theorem dX0_least_64 : decode cX0_least 64 = .ok (.aload 6, 2) := by decide +kernel
theorem dX0_least_66 : decode cX0_least 66 = .ok (.astore_n 3, 1) := by decide +kernel
theorem dX0_least_67 : decode cX0_least 67 = .ok (.iload 7, 2) := by decide +kernel
theorem dX0_least_69 : decode cX0_least 69 = .ok (.istore 4, 2) := by decide +kernel
theorem dX0_least_71 : decode cX0_least 71 = .ok (.iinc 5 1, 3) := by decide +kernel
theorem dX0_least_74 : decode cX0_least 74 = .ok (.goto (-66), 3) := by decide +kernel
theorem dX0_least_77 : decode cX0_least 77 = .ok (.aload_n 3, 1) := by decide +kernel
theorem dX0_least_78 : decode cX0_least 78 = .ok (.areturn, 1) := by decide +kernel
theorem dX0_kth_0 : decode cX0_kth 0 = .ok (.iconst 0, 1) := by decide +kernel
theorem dX0_kth_1 : decode cX0_kth 1 = .ok (.istore 4, 2) := by decide +kernel
theorem dX0_kth_3 : decode cX0_kth 3 = .ok (.iload 4, 2) := by decide +kernel
theorem dX0_kth_5 : decode cX0_kth 5 = .ok (.aload_n 0, 1) := by decide +kernel
theorem dX0_kth_6 : decode cX0_kth 6 = .ok (.getfield 22, 3) := by decide +kernel
theorem dX0_kth_9 : decode cX0_kth 9 = .ok (.getfield 46, 3) := by decide +kernel
theorem dX0_kth_12 : decode cX0_kth 12 = .ok (.if_icmp .ge 45, 3) := by decide +kernel
theorem dX0_kth_15 : decode cX0_kth 15 = .ok (.aload_n 0, 1) := by decide +kernel
theorem dX0_kth_16 : decode cX0_kth 16 = .ok (.getfield 22, 3) := by decide +kernel
theorem dX0_kth_19 : decode cX0_kth 19 = .ok (.getfield 142, 3) := by decide +kernel
theorem dX0_kth_22 : decode cX0_kth 22 = .ok (.iload 4, 2) := by decide +kernel
theorem dX0_kth_24 : decode cX0_kth 24 = .ok (.aaload, 1) := by decide +kernel
theorem dX0_kth_25 : decode cX0_kth 25 = .ok (.astore 5, 2) := by decide +kernel
theorem dX0_kth_27 : decode cX0_kth 27 = .ok (.aload 5, 2) := by decide +kernel
theorem dX0_kth_29 : decode cX0_kth 29 = .ok (.iload_n 1, 1) := by decide +kernel
theorem dX0_kth_30 : decode cX0_kth 30 = .ok (.aload_n 2, 1) := by decide +kernel
theorem dX0_kth_31 : decode cX0_kth 31 = .ok (.invokestatic 146, 3) := by decide +kernel
theorem dX0_kth_34 : decode cX0_kth 34 = .ok (.ifCond .eq 17, 3) := by decide +kernel
theorem dX0_kth_37 : decode cX0_kth 37 = .ok (.aload_n 0, 1) := by decide +kernel
theorem dX0_kth_38 : decode cX0_kth 38 = .ok (.aload 5, 2) := by decide +kernel
theorem dX0_kth_40 : decode cX0_kth 40 = .ok (.aload_n 2, 1) := by decide +kernel
theorem dX0_kth_41 : decode cX0_kth 41 = .ok (.invokevirtual 150, 3) := by decide +kernel
theorem dX0_kth_44 : decode cX0_kth 44 = .ok (.iload_n 3, 1) := by decide +kernel
theorem dX0_kth_45 : decode cX0_kth 45 = .ok (.if_icmp .ne 6, 3) := by decide +kernel
theorem dX0_kth_48 : decode cX0_kth 48 = .ok (.aload 5, 2) := by decide +kernel
theorem dX0_kth_50 : decode cX0_kth 50 = .ok (.areturn, 1) := by decide +kernel
theorem dX0_kth_51 : decode cX0_kth 51 = .ok (.iinc 4 1, 3) := by decide +kernel
theorem dX0_kth_54 : decode cX0_kth 54 = .ok (.goto (-51), 3) := by decide +kernel
theorem dX0_kth_57 : decode cX0_kth 57 = .ok (.aconst_null, 1) := by decide +kernel
theorem dX0_kth_58 : decode cX0_kth 58 = .ok (.areturn, 1) := by decide +kernel
theorem dX0_countAhead_0 : decode cX0_countAhead 0 = .ok (.iconst 0, 1) := by decide +kernel
theorem dX0_countAhead_1 : decode cX0_countAhead 1 = .ok (.istore_n 3, 1) := by decide +kernel
theorem dX0_countAhead_2 : decode cX0_countAhead 2 = .ok (.iconst 0, 1) := by decide +kernel
theorem dX0_countAhead_3 : decode cX0_countAhead 3 = .ok (.istore 4, 2) := by decide +kernel
theorem dX0_countAhead_5 : decode cX0_countAhead 5 = .ok (.iload 4, 2) := by decide +kernel
theorem dX0_countAhead_7 : decode cX0_countAhead 7 = .ok (.aload_n 0, 1) := by decide +kernel
theorem dX0_countAhead_8 : decode cX0_countAhead 8 = .ok (.getfield 22, 3) := by decide +kernel
theorem dX0_countAhead_11 : decode cX0_countAhead 11 = .ok (.getfield 46, 3) := by decide +kernel
theorem dX0_countAhead_14 : decode cX0_countAhead 14 = .ok (.if_icmp .ge 47, 3) := by decide +kernel
theorem dX0_countAhead_17 : decode cX0_countAhead 17 = .ok (.aload_n 0, 1) := by decide +kernel
theorem dX0_countAhead_18 : decode cX0_countAhead 18 = .ok (.getfield 22, 3) := by decide +kernel
theorem dX0_countAhead_21 : decode cX0_countAhead 21 = .ok (.getfield 142, 3) := by decide +kernel
theorem dX0_countAhead_24 : decode cX0_countAhead 24 = .ok (.iload 4, 2) := by decide +kernel
theorem dX0_countAhead_26 : decode cX0_countAhead 26 = .ok (.aaload, 1) := by decide +kernel
theorem dX0_countAhead_27 : decode cX0_countAhead 27 = .ok (.astore 5, 2) := by decide +kernel
theorem dX0_countAhead_29 : decode cX0_countAhead 29 = .ok (.aload 5, 2) := by decide +kernel
theorem dX0_countAhead_31 : decode cX0_countAhead 31 = .ok (.aload_n 1, 1) := by decide +kernel
theorem dX0_countAhead_32 : decode cX0_countAhead 32 = .ok (.getfield 77, 3) := by decide +kernel
theorem dX0_countAhead_35 : decode cX0_countAhead 35 = .ok (.aload_n 2, 1) := by decide +kernel
theorem dX0_countAhead_36 : decode cX0_countAhead 36 = .ok (.invokestatic 146, 3) := by decide +kernel
theorem dX0_countAhead_39 : decode cX0_countAhead 39 = .ok (.ifCond .eq 16, 3) := by decide +kernel
theorem dX0_countAhead_42 : decode cX0_countAhead 42 = .ok (.aload_n 0, 1) := by decide +kernel
theorem dX0_countAhead_43 : decode cX0_countAhead 43 = .ok (.aload 5, 2) := by decide +kernel
theorem dX0_countAhead_45 : decode cX0_countAhead 45 = .ok (.aload_n 1, 1) := by decide +kernel
theorem dX0_countAhead_46 : decode cX0_countAhead 46 = .ok (.invokevirtual 154, 3) := by decide +kernel
theorem dX0_countAhead_49 : decode cX0_countAhead 49 = .ok (.ifCond .eq 6, 3) := by decide +kernel
theorem dX0_countAhead_52 : decode cX0_countAhead 52 = .ok (.iinc 3 1, 3) := by decide +kernel
theorem dX0_countAhead_55 : decode cX0_countAhead 55 = .ok (.iinc 4 1, 3) := by decide +kernel
theorem dX0_countAhead_58 : decode cX0_countAhead 58 = .ok (.goto (-53), 3) := by decide +kernel
theorem dX0_countAhead_61 : decode cX0_countAhead 61 = .ok (.iload_n 3, 1) := by decide +kernel
theorem dX0_countAhead_62 : decode cX0_countAhead 62 = .ok (.ireturn, 1) := by decide +kernel
theorem dX0_withNumber_0 : decode cX0_withNumber 0 = .ok (.iconst 0, 1) := by decide +kernel
theorem dX0_withNumber_1 : decode cX0_withNumber 1 = .ok (.istore_n 2, 1) := by decide +kernel
theorem dX0_withNumber_2 : decode cX0_withNumber 2 = .ok (.iload_n 2, 1) := by decide +kernel
theorem dX0_withNumber_3 : decode cX0_withNumber 3 = .ok (.aload_n 0, 1) := by decide +kernel
theorem dX0_withNumber_4 : decode cX0_withNumber 4 = .ok (.getfield 22, 3) := by decide +kernel
theorem dX0_withNumber_7 : decode cX0_withNumber 7 = .ok (.getfield 46, 3) := by decide +kernel
theorem dX0_withNumber_10 : decode cX0_withNumber 10 = .ok (.if_icmp .ge 35, 3) := by decide +kernel
theorem dX0_withNumber_13 : decode cX0_withNumber 13 = .ok (.aload_n 0, 1) := by decide +kernel
theorem dX0_withNumber_14 : decode cX0_withNumber 14 = .ok (.getfield 22, 3) := by decide +kernel
theorem dX0_withNumber_17 : decode cX0_withNumber 17 = .ok (.getfield 142, 3) := by decide +kernel
theorem dX0_withNumber_20 : decode cX0_withNumber 20 = .ok (.iload_n 2, 1) := by decide +kernel
theorem dX0_withNumber_21 : decode cX0_withNumber 21 = .ok (.aaload, 1) := by decide +kernel
theorem dX0_withNumber_22 : decode cX0_withNumber 22 = .ok (.getfield 139, 3) := by decide +kernel
theorem dX0_withNumber_25 : decode cX0_withNumber 25 = .ok (.iload_n 1, 1) := by decide +kernel
theorem dX0_withNumber_26 : decode cX0_withNumber 26 = .ok (.if_icmp .ne 13, 3) := by decide +kernel
theorem dX0_withNumber_29 : decode cX0_withNumber 29 = .ok (.aload_n 0, 1) := by decide +kernel
theorem dX0_withNumber_30 : decode cX0_withNumber 30 = .ok (.getfield 22, 3) := by decide +kernel
theorem dX0_withNumber_33 : decode cX0_withNumber 33 = .ok (.getfield 142, 3) := by decide +kernel
theorem dX0_withNumber_36 : decode cX0_withNumber 36 = .ok (.iload_n 2, 1) := by decide +kernel
theorem dX0_withNumber_37 : decode cX0_withNumber 37 = .ok (.aaload, 1) := by decide +kernel
theorem dX0_withNumber_38 : decode cX0_withNumber 38 = .ok (.areturn, 1) := by decide +kernel
theorem dX0_withNumber_39 : decode cX0_withNumber 39 = .ok (.iinc 2 1, 3) := by decide +kernel
theorem dX0_withNumber_42 : decode cX0_withNumber 42 = .ok (.goto (-40), 3) := by decide +kernel
theorem dX0_withNumber_45 : decode cX0_withNumber 45 = .ok (.aconst_null, 1) := by decide +kernel
theorem dX0_withNumber_46 : decode cX0_withNumber 46 = .ok (.areturn, 1) := by decide +kernel
theorem dX0_withKey_0 : decode cX0_withKey 0 = .ok (.iconst 0, 1) := by decide +kernel
theorem dX0_withKey_1 : decode cX0_withKey 1 = .ok (.istore_n 2, 1) := by decide +kernel
theorem dX0_withKey_2 : decode cX0_withKey 2 = .ok (.iload_n 2, 1) := by decide +kernel
theorem dX0_withKey_3 : decode cX0_withKey 3 = .ok (.aload_n 0, 1) := by decide +kernel
theorem dX0_withKey_4 : decode cX0_withKey 4 = .ok (.getfield 22, 3) := by decide +kernel
theorem dX0_withKey_7 : decode cX0_withKey 7 = .ok (.getfield 46, 3) := by decide +kernel
theorem dX0_withKey_10 : decode cX0_withKey 10 = .ok (.if_icmp .ge 35, 3) := by decide +kernel
theorem dX0_withKey_13 : decode cX0_withKey 13 = .ok (.aload_n 0, 1) := by decide +kernel
theorem dX0_withKey_14 : decode cX0_withKey 14 = .ok (.getfield 22, 3) := by decide +kernel
theorem dX0_withKey_17 : decode cX0_withKey 17 = .ok (.getfield 142, 3) := by decide +kernel
theorem dX0_withKey_20 : decode cX0_withKey 20 = .ok (.iload_n 2, 1) := by decide +kernel
theorem dX0_withKey_21 : decode cX0_withKey 21 = .ok (.aaload, 1) := by decide +kernel
theorem dX0_withKey_22 : decode cX0_withKey 22 = .ok (.getfield 158, 3) := by decide +kernel
theorem dX0_withKey_25 : decode cX0_withKey 25 = .ok (.iload_n 1, 1) := by decide +kernel
theorem dX0_withKey_26 : decode cX0_withKey 26 = .ok (.if_icmp .ne 13, 3) := by decide +kernel
theorem dX0_withKey_29 : decode cX0_withKey 29 = .ok (.aload_n 0, 1) := by decide +kernel
theorem dX0_withKey_30 : decode cX0_withKey 30 = .ok (.getfield 22, 3) := by decide +kernel
theorem dX0_withKey_33 : decode cX0_withKey 33 = .ok (.getfield 142, 3) := by decide +kernel
theorem dX0_withKey_36 : decode cX0_withKey 36 = .ok (.iload_n 2, 1) := by decide +kernel
theorem dX0_withKey_37 : decode cX0_withKey 37 = .ok (.aaload, 1) := by decide +kernel
theorem dX0_withKey_38 : decode cX0_withKey 38 = .ok (.areturn, 1) := by decide +kernel
theorem dX0_withKey_39 : decode cX0_withKey 39 = .ok (.iinc 2 1, 3) := by decide +kernel
theorem dX0_withKey_42 : decode cX0_withKey 42 = .ok (.goto (-40), 3) := by decide +kernel
theorem dX0_withKey_45 : decode cX0_withKey 45 = .ok (.aconst_null, 1) := by decide +kernel
theorem dX0_withKey_46 : decode cX0_withKey 46 = .ok (.areturn, 1) := by decide +kernel
theorem dX0_heldBehind_0 : decode cX0_heldBehind 0 = .ok (.iconst 0, 1) := by decide +kernel
theorem dX0_heldBehind_1 : decode cX0_heldBehind 1 = .ok (.istore_n 2, 1) := by decide +kernel
theorem dX0_heldBehind_2 : decode cX0_heldBehind 2 = .ok (.iload_n 2, 1) := by decide +kernel
theorem dX0_heldBehind_3 : decode cX0_heldBehind 3 = .ok (.aload_n 0, 1) := by decide +kernel
theorem dX0_heldBehind_4 : decode cX0_heldBehind 4 = .ok (.getfield 22, 3) := by decide +kernel
theorem dX0_heldBehind_7 : decode cX0_heldBehind 7 = .ok (.getfield 46, 3) := by decide +kernel
theorem dX0_heldBehind_10 : decode cX0_heldBehind 10 = .ok (.if_icmp .ge 50, 3) := by decide +kernel
theorem dX0_heldBehind_13 : decode cX0_heldBehind 13 = .ok (.aload_n 0, 1) := by decide +kernel
theorem dX0_heldBehind_14 : decode cX0_heldBehind 14 = .ok (.getfield 22, 3) := by decide +kernel
theorem dX0_heldBehind_17 : decode cX0_heldBehind 17 = .ok (.getfield 142, 3) := by decide +kernel
theorem dX0_heldBehind_20 : decode cX0_heldBehind 20 = .ok (.iload_n 2, 1) := by decide +kernel
theorem dX0_heldBehind_21 : decode cX0_heldBehind 21 = .ok (.aaload, 1) := by decide +kernel
theorem dX0_heldBehind_22 : decode cX0_heldBehind 22 = .ok (.astore_n 3, 1) := by decide +kernel
theorem dX0_heldBehind_23 : decode cX0_heldBehind 23 = .ok (.aload_n 3, 1) := by decide +kernel
theorem dX0_heldBehind_24 : decode cX0_heldBehind 24 = .ok (.getfield 77, 3) := by decide +kernel
theorem dX0_heldBehind_27 : decode cX0_heldBehind 27 = .ok (.iconst 1, 1) := by decide +kernel
theorem dX0_heldBehind_28 : decode cX0_heldBehind 28 = .ok (.if_icmp .ne 26, 3) := by decide +kernel
theorem dX0_heldBehind_31 : decode cX0_heldBehind 31 = .ok (.aload_n 3, 1) := by decide +kernel
theorem dX0_heldBehind_32 : decode cX0_heldBehind 32 = .ok (.getfield 96, 3) := by decide +kernel
theorem dX0_heldBehind_35 : decode cX0_heldBehind 35 = .ok (.ifnull 19, 3) := by decide +kernel
theorem dX0_heldBehind_38 : decode cX0_heldBehind 38 = .ok (.aload_n 3, 1) := by decide +kernel
theorem dX0_heldBehind_39 : decode cX0_heldBehind 39 = .ok (.getfield 96, 3) := by decide +kernel
theorem dX0_heldBehind_42 : decode cX0_heldBehind 42 = .ok (.getfield 139, 3) := by decide +kernel
theorem dX0_heldBehind_45 : decode cX0_heldBehind 45 = .ok (.aload_n 1, 1) := by decide +kernel
theorem dX0_heldBehind_46 : decode cX0_heldBehind 46 = .ok (.getfield 139, 3) := by decide +kernel
theorem dX0_heldBehind_49 : decode cX0_heldBehind 49 = .ok (.if_icmp .ne 5, 3) := by decide +kernel
theorem dX0_heldBehind_52 : decode cX0_heldBehind 52 = .ok (.aload_n 3, 1) := by decide +kernel
theorem dX0_heldBehind_53 : decode cX0_heldBehind 53 = .ok (.areturn, 1) := by decide +kernel
theorem dX0_heldBehind_54 : decode cX0_heldBehind 54 = .ok (.iinc 2 1, 3) := by decide +kernel
theorem dX0_heldBehind_57 : decode cX0_heldBehind 57 = .ok (.goto (-55), 3) := by decide +kernel
theorem dX0_heldBehind_60 : decode cX0_heldBehind 60 = .ok (.aconst_null, 1) := by decide +kernel
theorem dX0_heldBehind_61 : decode cX0_heldBehind 61 = .ok (.areturn, 1) := by decide +kernel
theorem dX0_firstEnding_0 : decode cX0_firstEnding 0 = .ok (.iconst 0, 1) := by decide +kernel
theorem dX0_firstEnding_1 : decode cX0_firstEnding 1 = .ok (.istore_n 2, 1) := by decide +kernel
theorem dX0_firstEnding_2 : decode cX0_firstEnding 2 = .ok (.iload_n 2, 1) := by decide +kernel
theorem dX0_firstEnding_3 : decode cX0_firstEnding 3 = .ok (.aload_n 0, 1) := by decide +kernel
theorem dX0_firstEnding_4 : decode cX0_firstEnding 4 = .ok (.getfield 22, 3) := by decide +kernel
theorem dX0_firstEnding_7 : decode cX0_firstEnding 7 = .ok (.getfield 46, 3) := by decide +kernel
theorem dX0_firstEnding_10 : decode cX0_firstEnding 10 = .ok (.if_icmp .ge 35, 3) := by decide +kernel
theorem dX0_firstEnding_13 : decode cX0_firstEnding 13 = .ok (.aload_n 0, 1) := by decide +kernel
theorem dX0_firstEnding_14 : decode cX0_firstEnding 14 = .ok (.getfield 22, 3) := by decide +kernel
theorem dX0_firstEnding_17 : decode cX0_firstEnding 17 = .ok (.getfield 142, 3) := by decide +kernel
theorem dX0_firstEnding_20 : decode cX0_firstEnding 20 = .ok (.iload_n 2, 1) := by decide +kernel
theorem dX0_firstEnding_21 : decode cX0_firstEnding 21 = .ok (.aaload, 1) := by decide +kernel
theorem dX0_firstEnding_22 : decode cX0_firstEnding 22 = .ok (.iload_n 1, 1) := by decide +kernel
theorem dX0_firstEnding_23 : decode cX0_firstEnding 23 = .ok (.invokevirtual 161, 3) := by decide +kernel
theorem dX0_firstEnding_26 : decode cX0_firstEnding 26 = .ok (.ifCond .eq 13, 3) := by decide +kernel
theorem dX0_firstEnding_29 : decode cX0_firstEnding 29 = .ok (.aload_n 0, 1) := by decide +kernel
theorem dX0_firstEnding_30 : decode cX0_firstEnding 30 = .ok (.getfield 22, 3) := by decide +kernel
theorem dX0_firstEnding_33 : decode cX0_firstEnding 33 = .ok (.getfield 142, 3) := by decide +kernel
theorem dX0_firstEnding_36 : decode cX0_firstEnding 36 = .ok (.iload_n 2, 1) := by decide +kernel
theorem dX0_firstEnding_37 : decode cX0_firstEnding 37 = .ok (.aaload, 1) := by decide +kernel
theorem dX0_firstEnding_38 : decode cX0_firstEnding 38 = .ok (.areturn, 1) := by decide +kernel
theorem dX0_firstEnding_39 : decode cX0_firstEnding 39 = .ok (.iinc 2 1, 3) := by decide +kernel
theorem dX0_firstEnding_42 : decode cX0_firstEnding 42 = .ok (.goto (-40), 3) := by decide +kernel
theorem dX0_firstEnding_45 : decode cX0_firstEnding 45 = .ok (.aconst_null, 1) := by decide +kernel
theorem dX0_firstEnding_46 : decode cX0_firstEnding 46 = .ok (.areturn, 1) := by decide +kernel
theorem dX0_firstDue_0 : decode cX0_firstDue 0 = .ok (.aload_n 0, 1) := by decide +kernel
theorem dX0_firstDue_1 : decode cX0_firstDue 1 = .ok (.iconst 2, 1) := by decide +kernel
theorem dX0_firstDue_2 : decode cX0_firstDue 2 = .ok (.aconst_null, 1) := by decide +kernel
theorem dX0_firstDue_3 : decode cX0_firstDue 3 = .ok (.invokevirtual 117, 3) := by decide +kernel
theorem dX0_firstDue_6 : decode cX0_firstDue 6 = .ok (.astore_n 2, 1) := by decide +kernel
theorem dX0_firstDue_7 : decode cX0_firstDue 7 = .ok (.aload_n 2, 1) := by decide +kernel
theorem dX0_firstDue_8 : decode cX0_firstDue 8 = .ok (.ifnull 15, 3) := by decide +kernel
theorem dX0_firstDue_11 : decode cX0_firstDue 11 = .ok (.aload_n 2, 1) := by decide +kernel
theorem dX0_firstDue_12 : decode cX0_firstDue 12 = .ok (.iload_n 1, 1) := by decide +kernel
theorem dX0_firstDue_13 : decode cX0_firstDue 13 = .ok (.invokevirtual 165, 3) := by decide +kernel
theorem dX0_firstDue_16 : decode cX0_firstDue 16 = .ok (.ifCond .eq 7, 3) := by decide +kernel
theorem dX0_firstDue_19 : decode cX0_firstDue 19 = .ok (.aload_n 2, 1) := by decide +kernel
theorem dX0_firstDue_20 : decode cX0_firstDue 20 = .ok (.goto 4, 3) := by decide +kernel
theorem dX0_firstDue_23 : decode cX0_firstDue 23 = .ok (.aconst_null, 1) := by decide +kernel
theorem dX0_firstDue_24 : decode cX0_firstDue 24 = .ok (.areturn, 1) := by decide +kernel
theorem dX0_longestWaiting_0 : decode cX0_longestWaiting 0 = .ok (.aconst_null, 1) := by decide +kernel
theorem dX0_longestWaiting_1 : decode cX0_longestWaiting 1 = .ok (.astore_n 2, 1) := by decide +kernel
theorem dX0_longestWaiting_2 : decode cX0_longestWaiting 2 = .ok (.iconst 0, 1) := by decide +kernel
theorem dX0_longestWaiting_3 : decode cX0_longestWaiting 3 = .ok (.istore_n 3, 1) := by decide +kernel
theorem dX0_longestWaiting_4 : decode cX0_longestWaiting 4 = .ok (.iload_n 3, 1) := by decide +kernel
theorem dX0_longestWaiting_5 : decode cX0_longestWaiting 5 = .ok (.aload_n 0, 1) := by decide +kernel
theorem dX0_longestWaiting_6 : decode cX0_longestWaiting 6 = .ok (.getfield 22, 3) := by decide +kernel
theorem dX0_longestWaiting_9 : decode cX0_longestWaiting 9 = .ok (.getfield 46, 3) := by decide +kernel
theorem dX0_longestWaiting_12 : decode cX0_longestWaiting 12 = .ok (.if_icmp .ge 49, 3) := by decide +kernel
theorem dX0_longestWaiting_15 : decode cX0_longestWaiting 15 = .ok (.aload_n 0, 1) := by decide +kernel
theorem dX0_longestWaiting_16 : decode cX0_longestWaiting 16 = .ok (.getfield 22, 3) := by decide +kernel
theorem dX0_longestWaiting_19 : decode cX0_longestWaiting 19 = .ok (.getfield 142, 3) := by decide +kernel
theorem dX0_longestWaiting_22 : decode cX0_longestWaiting 22 = .ok (.iload_n 3, 1) := by decide +kernel
theorem dX0_longestWaiting_23 : decode cX0_longestWaiting 23 = .ok (.aaload, 1) := by decide +kernel
theorem dX0_longestWaiting_24 : decode cX0_longestWaiting 24 = .ok (.astore 4, 2) := by decide +kernel
theorem dX0_longestWaiting_26 : decode cX0_longestWaiting 26 = .ok (.aload 4, 2) := by decide +kernel
theorem dX0_longestWaiting_28 : decode cX0_longestWaiting 28 = .ok (.iconst 0, 1) := by decide +kernel
theorem dX0_longestWaiting_29 : decode cX0_longestWaiting 29 = .ok (.aload_n 1, 1) := by decide +kernel
theorem dX0_longestWaiting_30 : decode cX0_longestWaiting 30 = .ok (.invokestatic 146, 3) := by decide +kernel
theorem dX0_longestWaiting_33 : decode cX0_longestWaiting 33 = .ok (.ifCond .eq 22, 3) := by decide +kernel
theorem dX0_longestWaiting_36 : decode cX0_longestWaiting 36 = .ok (.aload_n 2, 1) := by decide +kernel
theorem dX0_longestWaiting_37 : decode cX0_longestWaiting 37 = .ok (.ifnull 15, 3) := by decide +kernel
theorem dX0_longestWaiting_40 : decode cX0_longestWaiting 40 = .ok (.aload 4, 2) := by decide +kernel
theorem dX0_longestWaiting_42 : decode cX0_longestWaiting 42 = .ok (.getfield 168, 3) := by decide +kernel
theorem dX0_longestWaiting_45 : decode cX0_longestWaiting 45 = .ok (.aload_n 2, 1) := by decide +kernel
theorem dX0_longestWaiting_46 : decode cX0_longestWaiting 46 = .ok (.getfield 168, 3) := by decide +kernel
theorem dX0_longestWaiting_49 : decode cX0_longestWaiting 49 = .ok (.if_icmp .ge 6, 3) := by decide +kernel
theorem dX0_longestWaiting_52 : decode cX0_longestWaiting 52 = .ok (.aload 4, 2) := by decide +kernel
theorem dX0_longestWaiting_54 : decode cX0_longestWaiting 54 = .ok (.astore_n 2, 1) := by decide +kernel
theorem dX0_longestWaiting_55 : decode cX0_longestWaiting 55 = .ok (.iinc 3 1, 3) := by decide +kernel
theorem dX0_longestWaiting_58 : decode cX0_longestWaiting 58 = .ok (.goto (-54), 3) := by decide +kernel
theorem dX0_longestWaiting_61 : decode cX0_longestWaiting 61 = .ok (.aload_n 2, 1) := by decide +kernel
theorem dX0_longestWaiting_62 : decode cX0_longestWaiting 62 = .ok (.areturn, 1) := by decide +kernel
theorem dX0_waitingSizes_0 : decode cX0_waitingSizes 0 = .ok (.iconst 0, 1) := by decide +kernel
theorem dX0_waitingSizes_1 : decode cX0_waitingSizes 1 = .ok (.istore_n 2, 1) := by decide +kernel
theorem dX0_waitingSizes_2 : decode cX0_waitingSizes 2 = .ok (.iconst 0, 1) := by decide +kernel
theorem dX0_waitingSizes_3 : decode cX0_waitingSizes 3 = .ok (.istore_n 3, 1) := by decide +kernel
theorem dX0_waitingSizes_4 : decode cX0_waitingSizes 4 = .ok (.iload_n 3, 1) := by decide +kernel
theorem dX0_waitingSizes_5 : decode cX0_waitingSizes 5 = .ok (.aload_n 0, 1) := by decide +kernel
theorem dX0_waitingSizes_6 : decode cX0_waitingSizes 6 = .ok (.getfield 22, 3) := by decide +kernel
theorem dX0_waitingSizes_9 : decode cX0_waitingSizes 9 = .ok (.getfield 46, 3) := by decide +kernel
theorem dX0_waitingSizes_12 : decode cX0_waitingSizes 12 = .ok (.if_icmp .ge 41, 3) := by decide +kernel
theorem dX0_waitingSizes_15 : decode cX0_waitingSizes 15 = .ok (.aload_n 0, 1) := by decide +kernel
theorem dX0_waitingSizes_16 : decode cX0_waitingSizes 16 = .ok (.getfield 22, 3) := by decide +kernel
theorem dX0_waitingSizes_19 : decode cX0_waitingSizes 19 = .ok (.getfield 142, 3) := by decide +kernel
theorem dX0_waitingSizes_22 : decode cX0_waitingSizes 22 = .ok (.iload_n 3, 1) := by decide +kernel
theorem dX0_waitingSizes_23 : decode cX0_waitingSizes 23 = .ok (.aaload, 1) := by decide +kernel
theorem dX0_waitingSizes_24 : decode cX0_waitingSizes 24 = .ok (.iconst 0, 1) := by decide +kernel
theorem dX0_waitingSizes_25 : decode cX0_waitingSizes 25 = .ok (.aload_n 1, 1) := by decide +kernel
theorem dX0_waitingSizes_26 : decode cX0_waitingSizes 26 = .ok (.invokestatic 146, 3) := by decide +kernel
theorem dX0_waitingSizes_29 : decode cX0_waitingSizes 29 = .ok (.ifCond .eq 18, 3) := by decide +kernel
theorem dX0_waitingSizes_32 : decode cX0_waitingSizes 32 = .ok (.iload_n 2, 1) := by decide +kernel
theorem dX0_waitingSizes_33 : decode cX0_waitingSizes 33 = .ok (.aload_n 0, 1) := by decide +kernel
theorem dX0_waitingSizes_34 : decode cX0_waitingSizes 34 = .ok (.getfield 22, 3) := by decide +kernel
theorem dX0_waitingSizes_37 : decode cX0_waitingSizes 37 = .ok (.getfield 142, 3) := by decide +kernel
theorem dX0_waitingSizes_40 : decode cX0_waitingSizes 40 = .ok (.iload_n 3, 1) := by decide +kernel
theorem dX0_waitingSizes_41 : decode cX0_waitingSizes 41 = .ok (.aaload, 1) := by decide +kernel
theorem dX0_waitingSizes_42 : decode cX0_waitingSizes 42 = .ok (.getfield 121, 3) := by decide +kernel
theorem dX0_waitingSizes_45 : decode cX0_waitingSizes 45 = .ok (.iadd, 1) := by decide +kernel
theorem dX0_waitingSizes_46 : decode cX0_waitingSizes 46 = .ok (.istore_n 2, 1) := by decide +kernel
theorem dX0_waitingSizes_47 : decode cX0_waitingSizes 47 = .ok (.iinc 3 1, 3) := by decide +kernel
theorem dX0_waitingSizes_50 : decode cX0_waitingSizes 50 = .ok (.goto (-46), 3) := by decide +kernel
theorem dX0_waitingSizes_53 : decode cX0_waitingSizes 53 = .ok (.iload_n 2, 1) := by decide +kernel
theorem dX0_waitingSizes_54 : decode cX0_waitingSizes 54 = .ok (.ireturn, 1) := by decide +kernel
theorem dX1_init_0 : decode cX1_init 0 = .ok (.aload_n 0, 1) := by decide +kernel
theorem dX1_init_1 : decode cX1_init 1 = .ok (.invokespecial 3, 3) := by decide +kernel
theorem dX1_init_4 : decode cX1_init 4 = .ok (.aload_n 0, 1) := by decide +kernel
theorem dX1_init_5 : decode cX1_init 5 = .ok (.sipush 384, 3) := by decide +kernel
theorem dX1_init_8 : decode cX1_init 8 = .ok (.newarray .int, 2) := by decide +kernel
theorem dX1_init_10 : decode cX1_init 10 = .ok (.putfield 11, 3) := by decide +kernel
theorem dX1_init_13 : decode cX1_init 13 = .ok (.return_, 1) := by decide +kernel
theorem dX1_write_0 : decode cX1_write 0 = .ok (.aload_n 0, 1) := by decide +kernel
theorem dX1_write_1 : decode cX1_write 1 = .ok (.getfield 15, 3) := by decide +kernel
theorem dX1_write_4 : decode cX1_write 4 = .ok (.bipush 6, 2) := by decide +kernel
theorem dX1_write_6 : decode cX1_write 6 = .ok (.imul, 1) := by decide +kernel
theorem dX1_write_7 : decode cX1_write 7 = .ok (.istore 6, 2) := by decide +kernel
theorem dX1_write_9 : decode cX1_write 9 = .ok (.aload_n 0, 1) := by decide +kernel
theorem dX1_write_10 : decode cX1_write 10 = .ok (.getfield 11, 3) := by decide +kernel
theorem dX1_write_13 : decode cX1_write 13 = .ok (.iload 6, 2) := by decide +kernel
theorem dX1_write_15 : decode cX1_write 15 = .ok (.iload_n 1, 1) := by decide +kernel
theorem dX1_write_16 : decode cX1_write 16 = .ok (.iastore, 1) := by decide +kernel
theorem dX1_write_17 : decode cX1_write 17 = .ok (.aload_n 0, 1) := by decide +kernel
theorem dX1_write_18 : decode cX1_write 18 = .ok (.getfield 11, 3) := by decide +kernel
theorem dX1_write_21 : decode cX1_write 21 = .ok (.iload 6, 2) := by decide +kernel
theorem dX1_write_23 : decode cX1_write 23 = .ok (.iconst 1, 1) := by decide +kernel
theorem dX1_write_24 : decode cX1_write 24 = .ok (.iadd, 1) := by decide +kernel
theorem dX1_write_25 : decode cX1_write 25 = .ok (.iload_n 2, 1) := by decide +kernel
theorem dX1_write_26 : decode cX1_write 26 = .ok (.iastore, 1) := by decide +kernel
theorem dX1_write_27 : decode cX1_write 27 = .ok (.aload_n 0, 1) := by decide +kernel
theorem dX1_write_28 : decode cX1_write 28 = .ok (.getfield 11, 3) := by decide +kernel
theorem dX1_write_31 : decode cX1_write 31 = .ok (.iload 6, 2) := by decide +kernel
theorem dX1_write_33 : decode cX1_write 33 = .ok (.iconst 2, 1) := by decide +kernel
theorem dX1_write_34 : decode cX1_write 34 = .ok (.iadd, 1) := by decide +kernel
theorem dX1_write_35 : decode cX1_write 35 = .ok (.aload_n 3, 1) := by decide +kernel
theorem dX1_write_36 : decode cX1_write 36 = .ok (.getfield 19, 3) := by decide +kernel
theorem dX1_write_39 : decode cX1_write 39 = .ok (.iastore, 1) := by decide +kernel
theorem dX1_write_40 : decode cX1_write 40 = .ok (.aload_n 0, 1) := by decide +kernel
theorem dX1_write_41 : decode cX1_write 41 = .ok (.getfield 11, 3) := by decide +kernel
theorem dX1_write_44 : decode cX1_write 44 = .ok (.iload 6, 2) := by decide +kernel
theorem dX1_write_46 : decode cX1_write 46 = .ok (.iconst 3, 1) := by decide +kernel
theorem dX1_write_47 : decode cX1_write 47 = .ok (.iadd, 1) := by decide +kernel
theorem dX1_write_48 : decode cX1_write 48 = .ok (.aload_n 3, 1) := by decide +kernel
theorem dX1_write_49 : decode cX1_write 49 = .ok (.getfield 24, 3) := by decide +kernel
theorem dX1_write_52 : decode cX1_write 52 = .ok (.getfield 28, 3) := by decide +kernel
theorem dX1_write_55 : decode cX1_write 55 = .ok (.iastore, 1) := by decide +kernel
theorem dX1_write_56 : decode cX1_write 56 = .ok (.aload_n 0, 1) := by decide +kernel
theorem dX1_write_57 : decode cX1_write 57 = .ok (.getfield 11, 3) := by decide +kernel
theorem dX1_write_60 : decode cX1_write 60 = .ok (.iload 6, 2) := by decide +kernel
theorem dX1_write_62 : decode cX1_write 62 = .ok (.iconst 4, 1) := by decide +kernel
theorem dX1_write_63 : decode cX1_write 63 = .ok (.iadd, 1) := by decide +kernel
theorem dX1_write_64 : decode cX1_write 64 = .ok (.iload 4, 2) := by decide +kernel
theorem dX1_write_66 : decode cX1_write 66 = .ok (.iastore, 1) := by decide +kernel
theorem dX1_write_67 : decode cX1_write 67 = .ok (.aload_n 0, 1) := by decide +kernel
theorem dX1_write_68 : decode cX1_write 68 = .ok (.getfield 11, 3) := by decide +kernel
theorem dX1_write_71 : decode cX1_write 71 = .ok (.iload 6, 2) := by decide +kernel
theorem dX1_write_73 : decode cX1_write 73 = .ok (.iconst 5, 1) := by decide +kernel
theorem dX1_write_74 : decode cX1_write 74 = .ok (.iadd, 1) := by decide +kernel
theorem dX1_write_75 : decode cX1_write 75 = .ok (.iload 5, 2) := by decide +kernel
theorem dX1_write_77 : decode cX1_write 77 = .ok (.iastore, 1) := by decide +kernel
theorem dX1_write_78 : decode cX1_write 78 = .ok (.aload_n 0, 1) := by decide +kernel
theorem dX1_write_79 : decode cX1_write 79 = .ok (.aload_n 0, 1) := by decide +kernel
theorem dX1_write_80 : decode cX1_write 80 = .ok (.getfield 15, 3) := by decide +kernel
theorem dX1_write_83 : decode cX1_write 83 = .ok (.iconst 1, 1) := by decide +kernel
theorem dX1_write_84 : decode cX1_write 84 = .ok (.iadd, 1) := by decide +kernel
theorem dX1_write_85 : decode cX1_write 85 = .ok (.bipush 64, 2) := by decide +kernel
theorem dX1_write_87 : decode cX1_write 87 = .ok (.if_icmp .ge 12, 3) := by decide +kernel
theorem dX1_write_90 : decode cX1_write 90 = .ok (.aload_n 0, 1) := by decide +kernel
theorem dX1_write_91 : decode cX1_write 91 = .ok (.getfield 15, 3) := by decide +kernel
theorem dX1_write_94 : decode cX1_write 94 = .ok (.iconst 1, 1) := by decide +kernel
theorem dX1_write_95 : decode cX1_write 95 = .ok (.iadd, 1) := by decide +kernel
theorem dX1_write_96 : decode cX1_write 96 = .ok (.goto 4, 3) := by decide +kernel
theorem dX1_write_99 : decode cX1_write 99 = .ok (.iconst 0, 1) := by decide +kernel
theorem dX1_write_100 : decode cX1_write 100 = .ok (.putfield 15, 3) := by decide +kernel
theorem dX1_write_103 : decode cX1_write 103 = .ok (.aload_n 0, 1) := by decide +kernel
theorem dX1_write_104 : decode cX1_write 104 = .ok (.aload_n 0, 1) := by decide +kernel
theorem dX1_write_105 : decode cX1_write 105 = .ok (.getfield 31, 3) := by decide +kernel
theorem dX1_write_108 : decode cX1_write 108 = .ok (.iconst 1, 1) := by decide +kernel
theorem dX1_write_109 : decode cX1_write 109 = .ok (.iadd, 1) := by decide +kernel
theorem dX1_write_110 : decode cX1_write 110 = .ok (.bipush 64, 2) := by decide +kernel
theorem dX1_write_112 : decode cX1_write 112 = .ok (.invokestatic 34, 3) := by decide +kernel
theorem dX1_write_115 : decode cX1_write 115 = .ok (.putfield 31, 3) := by decide +kernel
theorem dX1_write_118 : decode cX1_write 118 = .ok (.return_, 1) := by decide +kernel
theorem dX1_read_0 : decode cX1_read 0 = .ok (.iload_n 1, 1) := by decide +kernel
theorem dX1_read_1 : decode cX1_read 1 = .ok (.ifCond .lt 21, 3) := by decide +kernel
theorem dX1_read_4 : decode cX1_read 4 = .ok (.iload_n 1, 1) := by decide +kernel
theorem dX1_read_5 : decode cX1_read 5 = .ok (.aload_n 0, 1) := by decide +kernel
theorem dX1_read_6 : decode cX1_read 6 = .ok (.getfield 31, 3) := by decide +kernel
theorem dX1_read_9 : decode cX1_read 9 = .ok (.if_icmp .ge 13, 3) := by decide +kernel
theorem dX1_read_12 : decode cX1_read 12 = .ok (.iload_n 2, 1) := by decide +kernel
theorem dX1_read_13 : decode cX1_read 13 = .ok (.ifCond .lt 9, 3) := by decide +kernel
theorem dX1_read_16 : decode cX1_read 16 = .ok (.iload_n 2, 1) := by decide +kernel
theorem dX1_read_17 : decode cX1_read 17 = .ok (.bipush 6, 2) := by decide +kernel
theorem dX1_read_19 : decode cX1_read 19 = .ok (.if_icmp .lt 6, 3) := by decide +kernel
theorem dX1_read_22 : decode cX1_read 22 = .ok (.bipush (-2), 2) := by decide +kernel
theorem dX1_read_24 : decode cX1_read 24 = .ok (.ireturn, 1) := by decide +kernel
theorem dX1_read_25 : decode cX1_read 25 = .ok (.aload_n 0, 1) := by decide +kernel
theorem dX1_read_26 : decode cX1_read 26 = .ok (.getfield 15, 3) := by decide +kernel
theorem dX1_read_29 : decode cX1_read 29 = .ok (.iconst 1, 1) := by decide +kernel
theorem dX1_read_30 : decode cX1_read 30 = .ok (.isub, 1) := by decide +kernel
theorem dX1_read_31 : decode cX1_read 31 = .ok (.iload_n 1, 1) := by decide +kernel
theorem dX1_read_32 : decode cX1_read 32 = .ok (.isub, 1) := by decide +kernel
theorem dX1_read_33 : decode cX1_read 33 = .ok (.istore_n 3, 1) := by decide +kernel
theorem dX1_read_34 : decode cX1_read 34 = .ok (.aload_n 0, 1) := by decide +kernel
theorem dX1_read_35 : decode cX1_read 35 = .ok (.getfield 11, 3) := by decide +kernel
theorem dX1_read_38 : decode cX1_read 38 = .ok (.iload_n 3, 1) := by decide +kernel
theorem dX1_read_39 : decode cX1_read 39 = .ok (.ifCond .ge 10, 3) := by decide +kernel
theorem dX1_read_42 : decode cX1_read 42 = .ok (.iload_n 3, 1) := by decide +kernel
theorem dX1_read_43 : decode cX1_read 43 = .ok (.bipush 64, 2) := by decide +kernel
theorem dX1_read_45 : decode cX1_read 45 = .ok (.iadd, 1) := by decide +kernel
theorem dX1_read_46 : decode cX1_read 46 = .ok (.goto 4, 3) := by decide +kernel
theorem dX1_read_49 : decode cX1_read 49 = .ok (.iload_n 3, 1) := by decide +kernel
theorem dX1_read_50 : decode cX1_read 50 = .ok (.bipush 6, 2) := by decide +kernel
theorem dX1_read_52 : decode cX1_read 52 = .ok (.imul, 1) := by decide +kernel
theorem dX1_read_53 : decode cX1_read 53 = .ok (.iload_n 2, 1) := by decide +kernel
theorem dX1_read_54 : decode cX1_read 54 = .ok (.iadd, 1) := by decide +kernel
theorem dX1_read_55 : decode cX1_read 55 = .ok (.iaload, 1) := by decide +kernel
theorem dX1_read_56 : decode cX1_read 56 = .ok (.ireturn, 1) := by decide +kernel
theorem dX2_init_0 : decode cX2_init 0 = .ok (.aload_n 0, 1) := by decide +kernel
theorem dX2_init_1 : decode cX2_init 1 = .ok (.invokespecial 1, 3) := by decide +kernel
theorem dX2_init_4 : decode cX2_init 4 = .ok (.return_, 1) := by decide +kernel
theorem dX2_next_0 : decode cX2_next 0 = .ok (.aload_n 0, 1) := by decide +kernel
theorem dX2_next_1 : decode cX2_next 1 = .ok (.ldc2_w 7, 3) := by decide +kernel
theorem dX2_next_4 : decode cX2_next 4 = .ok (.aload_n 0, 1) := by decide +kernel
theorem dX2_next_5 : decode cX2_next 5 = .ok (.getfield 9, 3) := by decide +kernel
theorem dX2_next_8 : decode cX2_next 8 = .ok (.lmul, 1) := by decide +kernel
theorem dX2_next_9 : decode cX2_next 9 = .ok (.ldc2_w 15, 3) := by decide +kernel
theorem dX2_next_12 : decode cX2_next 12 = .ok (.ladd, 1) := by decide +kernel
theorem dX2_next_13 : decode cX2_next 13 = .ok (.ldc2_w 17, 3) := by decide +kernel
theorem dX2_next_16 : decode cX2_next 16 = .ok (.land, 1) := by decide +kernel
theorem dX2_next_17 : decode cX2_next 17 = .ok (.putfield 9, 3) := by decide +kernel
theorem dX2_next_20 : decode cX2_next 20 = .ok (.iload_n 1, 1) := by decide +kernel
theorem dX2_next_21 : decode cX2_next 21 = .ok (.iconst 1, 1) := by decide +kernel
theorem dX2_next_22 : decode cX2_next 22 = .ok (.if_icmp .ge 7, 3) := by decide +kernel
theorem dX2_next_25 : decode cX2_next 25 = .ok (.iconst 0, 1) := by decide +kernel
theorem dX2_next_26 : decode cX2_next 26 = .ok (.goto 15, 3) := by decide +kernel
theorem dX2_next_29 : decode cX2_next 29 = .ok (.aload_n 0, 1) := by decide +kernel
theorem dX2_next_30 : decode cX2_next 30 = .ok (.getfield 9, 3) := by decide +kernel
theorem dX2_next_33 : decode cX2_next 33 = .ok (.ldc2_w 19, 3) := by decide +kernel
theorem dX2_next_36 : decode cX2_next 36 = .ok (.ldiv, 1) := by decide +kernel
theorem dX2_next_37 : decode cX2_next 37 = .ok (.iload_n 1, 1) := by decide +kernel
theorem dX2_next_38 : decode cX2_next 38 = .ok (.i2l, 1) := by decide +kernel
theorem dX2_next_39 : decode cX2_next 39 = .ok (.lrem, 1) := by decide +kernel
theorem dX2_next_40 : decode cX2_next 40 = .ok (.l2i, 1) := by decide +kernel
theorem dX2_next_41 : decode cX2_next 41 = .ok (.ireturn, 1) := by decide +kernel
theorem dX3_init_0 : decode cX3_init 0 = .ok (.aload_n 0, 1) := by decide +kernel
theorem dX3_init_1 : decode cX3_init 1 = .ok (.invokespecial 3, 3) := by decide +kernel
theorem dX3_init_4 : decode cX3_init 4 = .ok (.aload_n 0, 1) := by decide +kernel
theorem dX3_init_5 : decode cX3_init 5 = .ok (.iconst 1, 1) := by decide +kernel
theorem dX3_init_6 : decode cX3_init 6 = .ok (.putfield 9, 3) := by decide +kernel
theorem dX3_init_9 : decode cX3_init 9 = .ok (.aload_n 0, 1) := by decide +kernel
theorem dX3_init_10 : decode cX3_init 10 = .ok (.bipush 12, 2) := by decide +kernel
theorem dX3_init_12 : decode cX3_init 12 = .ok (.putfield 15, 3) := by decide +kernel
theorem dX3_init_15 : decode cX3_init 15 = .ok (.aload_n 0, 1) := by decide +kernel
theorem dX3_init_16 : decode cX3_init 16 = .ok (.bipush 6, 2) := by decide +kernel
theorem dX3_init_18 : decode cX3_init 18 = .ok (.putfield 18, 3) := by decide +kernel
theorem dX3_init_21 : decode cX3_init 21 = .ok (.aload_n 0, 1) := by decide +kernel
theorem dX3_init_22 : decode cX3_init 22 = .ok (.iconst 0, 1) := by decide +kernel
theorem dX3_init_23 : decode cX3_init 23 = .ok (.putfield 21, 3) := by decide +kernel
theorem dX3_init_26 : decode cX3_init 26 = .ok (.aload_n 0, 1) := by decide +kernel
theorem dX3_init_27 : decode cX3_init 27 = .ok (.iconst (-1), 1) := by decide +kernel
theorem dX3_init_28 : decode cX3_init 28 = .ok (.putfield 24, 3) := by decide +kernel
theorem dX3_init_31 : decode cX3_init 31 = .ok (.aload_n 0, 1) := by decide +kernel
theorem dX3_init_32 : decode cX3_init 32 = .ok (.iconst (-1), 1) := by decide +kernel
theorem dX3_init_33 : decode cX3_init 33 = .ok (.putfield 27, 3) := by decide +kernel
theorem dX3_init_36 : decode cX3_init 36 = .ok (.aload_n 0, 1) := by decide +kernel
theorem dX3_init_37 : decode cX3_init 37 = .ok (.iload_n 1, 1) := by decide +kernel
theorem dX3_init_38 : decode cX3_init 38 = .ok (.putfield 30, 3) := by decide +kernel
theorem dX3_init_41 : decode cX3_init 41 = .ok (.return_, 1) := by decide +kernel
theorem dX3_copyFrom_0 : decode cX3_copyFrom 0 = .ok (.aload_n 0, 1) := by decide +kernel
theorem dX3_copyFrom_1 : decode cX3_copyFrom 1 = .ok (.aload_n 1, 1) := by decide +kernel
theorem dX3_copyFrom_2 : decode cX3_copyFrom 2 = .ok (.getfield 9, 3) := by decide +kernel
theorem dX3_copyFrom_5 : decode cX3_copyFrom 5 = .ok (.putfield 9, 3) := by decide +kernel
theorem dX3_copyFrom_8 : decode cX3_copyFrom 8 = .ok (.aload_n 0, 1) := by decide +kernel
theorem dX3_copyFrom_9 : decode cX3_copyFrom 9 = .ok (.aload_n 1, 1) := by decide +kernel
theorem dX3_copyFrom_10 : decode cX3_copyFrom 10 = .ok (.getfield 15, 3) := by decide +kernel
theorem dX3_copyFrom_13 : decode cX3_copyFrom 13 = .ok (.putfield 15, 3) := by decide +kernel
theorem dX3_copyFrom_16 : decode cX3_copyFrom 16 = .ok (.aload_n 0, 1) := by decide +kernel
theorem dX3_copyFrom_17 : decode cX3_copyFrom 17 = .ok (.aload_n 1, 1) := by decide +kernel
theorem dX3_copyFrom_18 : decode cX3_copyFrom 18 = .ok (.getfield 18, 3) := by decide +kernel
theorem dX3_copyFrom_21 : decode cX3_copyFrom 21 = .ok (.putfield 18, 3) := by decide +kernel
theorem dX3_copyFrom_24 : decode cX3_copyFrom 24 = .ok (.aload_n 0, 1) := by decide +kernel
theorem dX3_copyFrom_25 : decode cX3_copyFrom 25 = .ok (.aload_n 1, 1) := by decide +kernel
theorem dX3_copyFrom_26 : decode cX3_copyFrom 26 = .ok (.getfield 21, 3) := by decide +kernel
theorem dX3_copyFrom_29 : decode cX3_copyFrom 29 = .ok (.putfield 21, 3) := by decide +kernel
theorem dX3_copyFrom_32 : decode cX3_copyFrom 32 = .ok (.aload_n 0, 1) := by decide +kernel
theorem dX3_copyFrom_33 : decode cX3_copyFrom 33 = .ok (.aload_n 1, 1) := by decide +kernel
theorem dX3_copyFrom_34 : decode cX3_copyFrom 34 = .ok (.getfield 33, 3) := by decide +kernel
theorem dX3_copyFrom_37 : decode cX3_copyFrom 37 = .ok (.putfield 33, 3) := by decide +kernel
theorem dX3_copyFrom_40 : decode cX3_copyFrom 40 = .ok (.aload_n 0, 1) := by decide +kernel
theorem dX3_copyFrom_41 : decode cX3_copyFrom 41 = .ok (.aload_n 1, 1) := by decide +kernel
theorem dX3_copyFrom_42 : decode cX3_copyFrom 42 = .ok (.getfield 36, 3) := by decide +kernel
theorem dX3_copyFrom_45 : decode cX3_copyFrom 45 = .ok (.putfield 36, 3) := by decide +kernel
theorem dX3_copyFrom_48 : decode cX3_copyFrom 48 = .ok (.aload_n 0, 1) := by decide +kernel
theorem dX3_copyFrom_49 : decode cX3_copyFrom 49 = .ok (.aload_n 1, 1) := by decide +kernel
theorem dX3_copyFrom_50 : decode cX3_copyFrom 50 = .ok (.getfield 39, 3) := by decide +kernel
theorem dX3_copyFrom_53 : decode cX3_copyFrom 53 = .ok (.putfield 39, 3) := by decide +kernel
theorem dX3_copyFrom_56 : decode cX3_copyFrom 56 = .ok (.aload_n 0, 1) := by decide +kernel
theorem dX3_copyFrom_57 : decode cX3_copyFrom 57 = .ok (.aload_n 1, 1) := by decide +kernel
theorem dX3_copyFrom_58 : decode cX3_copyFrom 58 = .ok (.getfield 42, 3) := by decide +kernel
theorem dX3_copyFrom_61 : decode cX3_copyFrom 61 = .ok (.putfield 42, 3) := by decide +kernel
theorem dX3_copyFrom_64 : decode cX3_copyFrom 64 = .ok (.return_, 1) := by decide +kernel
theorem dX3_hasRoom_0 : decode cX3_hasRoom 0 = .ok (.aload_n 0, 1) := by decide +kernel
theorem dX3_hasRoom_1 : decode cX3_hasRoom 1 = .ok (.getfield 39, 3) := by decide +kernel
theorem dX3_hasRoom_4 : decode cX3_hasRoom 4 = .ok (.aload_n 0, 1) := by decide +kernel
theorem dX3_hasRoom_5 : decode cX3_hasRoom 5 = .ok (.getfield 15, 3) := by decide +kernel
theorem dX3_hasRoom_8 : decode cX3_hasRoom 8 = .ok (.if_icmp .ge 7, 3) := by decide +kernel
theorem dX3_hasRoom_11 : decode cX3_hasRoom 11 = .ok (.iconst 1, 1) := by decide +kernel
theorem dX3_hasRoom_12 : decode cX3_hasRoom 12 = .ok (.goto 4, 3) := by decide +kernel
theorem dX3_hasRoom_15 : decode cX3_hasRoom 15 = .ok (.iconst 0, 1) := by decide +kernel
theorem dX3_hasRoom_16 : decode cX3_hasRoom 16 = .ok (.ireturn, 1) := by decide +kernel
theorem dX3_closeIfDrained_0 : decode cX3_closeIfDrained 0 = .ok (.aload_n 0, 1) := by decide +kernel
theorem dX3_closeIfDrained_1 : decode cX3_closeIfDrained 1 = .ok (.getfield 21, 3) := by decide +kernel
theorem dX3_closeIfDrained_4 : decode cX3_closeIfDrained 4 = .ok (.iconst 1, 1) := by decide +kernel
theorem dX3_closeIfDrained_5 : decode cX3_closeIfDrained 5 = .ok (.if_icmp .ne 15, 3) := by decide +kernel
theorem dX3_closeIfDrained_8 : decode cX3_closeIfDrained 8 = .ok (.aload_n 0, 1) := by decide +kernel
theorem dX3_closeIfDrained_9 : decode cX3_closeIfDrained 9 = .ok (.getfield 39, 3) := by decide +kernel
theorem dX3_closeIfDrained_12 : decode cX3_closeIfDrained 12 = .ok (.ifCond .ne 8, 3) := by decide +kernel
theorem dX3_closeIfDrained_15 : decode cX3_closeIfDrained 15 = .ok (.aload_n 0, 1) := by decide +kernel
theorem dX3_closeIfDrained_16 : decode cX3_closeIfDrained 16 = .ok (.iconst 2, 1) := by decide +kernel
theorem dX3_closeIfDrained_17 : decode cX3_closeIfDrained 17 = .ok (.putfield 21, 3) := by decide +kernel
theorem dX3_closeIfDrained_20 : decode cX3_closeIfDrained 20 = .ok (.return_, 1) := by decide +kernel
theorem dX3_payFor_0 : decode cX3_payFor 0 = .ok (.aload_n 0, 1) := by decide +kernel
theorem dX3_payFor_1 : decode cX3_payFor 1 = .ok (.dup, 1) := by decide +kernel
theorem dX3_payFor_2 : decode cX3_payFor 2 = .ok (.getfield 33, 3) := by decide +kernel
theorem dX3_payFor_5 : decode cX3_payFor 5 = .ok (.sipush 2520, 3) := by decide +kernel
theorem dX3_payFor_8 : decode cX3_payFor 8 = .ok (.iload_n 1, 1) := by decide +kernel
theorem dX3_payFor_9 : decode cX3_payFor 9 = .ok (.imul, 1) := by decide +kernel
theorem dX3_payFor_10 : decode cX3_payFor 10 = .ok (.iconst 1, 1) := by decide +kernel
theorem dX3_payFor_11 : decode cX3_payFor 11 = .ok (.aload_n 0, 1) := by decide +kernel
theorem dX3_payFor_12 : decode cX3_payFor 12 = .ok (.getfield 9, 3) := by decide +kernel
theorem dX3_payFor_15 : decode cX3_payFor 15 = .ok (.invokestatic 45, 3) := by decide +kernel
theorem dX3_payFor_18 : decode cX3_payFor 18 = .ok (.idiv, 1) := by decide +kernel
theorem dX3_payFor_19 : decode cX3_payFor 19 = .ok (.iadd, 1) := by decide +kernel
theorem dX3_payFor_20 : decode cX3_payFor 20 = .ok (.putfield 33, 3) := by decide +kernel
theorem dX3_payFor_23 : decode cX3_payFor 23 = .ok (.return_, 1) := by decide +kernel
theorem dX3_recordTaken_0 : decode cX3_recordTaken 0 = .ok (.aload_n 0, 1) := by decide +kernel
theorem dX3_recordTaken_1 : decode cX3_recordTaken 1 = .ok (.dup, 1) := by decide +kernel
theorem dX3_recordTaken_2 : decode cX3_recordTaken 2 = .ok (.getfield 51, 3) := by decide +kernel
theorem dX3_recordTaken_5 : decode cX3_recordTaken 5 = .ok (.aload_n 1, 1) := by decide +kernel
theorem dX3_recordTaken_6 : decode cX3_recordTaken 6 = .ok (.getfield 54, 3) := by decide +kernel
theorem dX3_recordTaken_9 : decode cX3_recordTaken 9 = .ok (.iadd, 1) := by decide +kernel
theorem dX3_recordTaken_10 : decode cX3_recordTaken 10 = .ok (.putfield 51, 3) := by decide +kernel
theorem dX3_recordTaken_13 : decode cX3_recordTaken 13 = .ok (.aload_n 0, 1) := by decide +kernel
theorem dX3_recordTaken_14 : decode cX3_recordTaken 14 = .ok (.dup, 1) := by decide +kernel
theorem dX3_recordTaken_15 : decode cX3_recordTaken 15 = .ok (.getfield 59, 3) := by decide +kernel
theorem dX3_recordTaken_18 : decode cX3_recordTaken 18 = .ok (.iconst 1, 1) := by decide +kernel
theorem dX3_recordTaken_19 : decode cX3_recordTaken 19 = .ok (.iadd, 1) := by decide +kernel
theorem dX3_recordTaken_20 : decode cX3_recordTaken 20 = .ok (.putfield 59, 3) := by decide +kernel
theorem dX3_recordTaken_23 : decode cX3_recordTaken 23 = .ok (.aload_n 0, 1) := by decide +kernel
theorem dX3_recordTaken_24 : decode cX3_recordTaken 24 = .ok (.dup, 1) := by decide +kernel
theorem dX3_recordTaken_25 : decode cX3_recordTaken 25 = .ok (.getfield 62, 3) := by decide +kernel
theorem dX3_recordTaken_28 : decode cX3_recordTaken 28 = .ok (.iload_n 2, 1) := by decide +kernel
theorem dX3_recordTaken_29 : decode cX3_recordTaken 29 = .ok (.iadd, 1) := by decide +kernel
theorem dX3_recordTaken_30 : decode cX3_recordTaken 30 = .ok (.putfield 62, 3) := by decide +kernel
theorem dX3_recordTaken_33 : decode cX3_recordTaken 33 = .ok (.iload_n 2, 1) := by decide +kernel
theorem dX3_recordTaken_34 : decode cX3_recordTaken 34 = .ok (.aload_n 0, 1) := by decide +kernel
theorem dX3_recordTaken_35 : decode cX3_recordTaken 35 = .ok (.getfield 24, 3) := by decide +kernel
theorem dX3_recordTaken_38 : decode cX3_recordTaken 38 = .ok (.if_icmp .le 16, 3) := by decide +kernel
theorem dX3_recordTaken_41 : decode cX3_recordTaken 41 = .ok (.aload_n 0, 1) := by decide +kernel
theorem dX3_recordTaken_42 : decode cX3_recordTaken 42 = .ok (.iload_n 2, 1) := by decide +kernel
theorem dX3_recordTaken_43 : decode cX3_recordTaken 43 = .ok (.putfield 24, 3) := by decide +kernel
theorem dX3_recordTaken_46 : decode cX3_recordTaken 46 = .ok (.aload_n 0, 1) := by decide +kernel
theorem dX3_recordTaken_47 : decode cX3_recordTaken 47 = .ok (.aload_n 1, 1) := by decide +kernel
theorem dX3_recordTaken_48 : decode cX3_recordTaken 48 = .ok (.getfield 65, 3) := by decide +kernel
theorem dX3_recordTaken_51 : decode cX3_recordTaken 51 = .ok (.putfield 27, 3) := by decide +kernel
theorem dX3_recordTaken_54 : decode cX3_recordTaken 54 = .ok (.return_, 1) := by decide +kernel
theorem dX3_rearrange_0 : decode cX3_rearrange 0 = .ok (.iload_n 1, 1) := by decide +kernel
theorem dX3_rearrange_1 : decode cX3_rearrange 1 = .ok (.ifCond .ne 16, 3) := by decide +kernel
theorem dX3_rearrange_4 : decode cX3_rearrange 4 = .ok (.aload_n 0, 1) := by decide +kernel
theorem dX3_rearrange_5 : decode cX3_rearrange 5 = .ok (.getfield 9, 3) := by decide +kernel
theorem dX3_rearrange_8 : decode cX3_rearrange 8 = .ok (.istore_n 3, 1) := by decide +kernel
theorem dX3_rearrange_9 : decode cX3_rearrange 9 = .ok (.aload_n 0, 1) := by decide +kernel
theorem dX3_rearrange_10 : decode cX3_rearrange 10 = .ok (.iload_n 2, 1) := by decide +kernel
theorem dX3_rearrange_11 : decode cX3_rearrange 11 = .ok (.putfield 9, 3) := by decide +kernel
theorem dX3_rearrange_14 : decode cX3_rearrange 14 = .ok (.goto 31, 3) := by decide +kernel
theorem dX3_rearrange_17 : decode cX3_rearrange 17 = .ok (.iload_n 1, 1) := by decide +kernel
theorem dX3_rearrange_18 : decode cX3_rearrange 18 = .ok (.iconst 1, 1) := by decide +kernel
theorem dX3_rearrange_19 : decode cX3_rearrange 19 = .ok (.if_icmp .ne 16, 3) := by decide +kernel
theorem dX3_rearrange_22 : decode cX3_rearrange 22 = .ok (.aload_n 0, 1) := by decide +kernel
theorem dX3_rearrange_23 : decode cX3_rearrange 23 = .ok (.getfield 15, 3) := by decide +kernel
theorem dX3_rearrange_26 : decode cX3_rearrange 26 = .ok (.istore_n 3, 1) := by decide +kernel
theorem dX3_rearrange_27 : decode cX3_rearrange 27 = .ok (.aload_n 0, 1) := by decide +kernel
theorem dX3_rearrange_28 : decode cX3_rearrange 28 = .ok (.iload_n 2, 1) := by decide +kernel
theorem dX3_rearrange_29 : decode cX3_rearrange 29 = .ok (.putfield 15, 3) := by decide +kernel
theorem dX3_rearrange_32 : decode cX3_rearrange 32 = .ok (.goto 13, 3) := by decide +kernel
theorem dX3_rearrange_35 : decode cX3_rearrange 35 = .ok (.aload_n 0, 1) := by decide +kernel
theorem dX3_rearrange_36 : decode cX3_rearrange 36 = .ok (.getfield 18, 3) := by decide +kernel
theorem dX3_rearrange_39 : decode cX3_rearrange 39 = .ok (.istore_n 3, 1) := by decide +kernel
theorem dX3_rearrange_40 : decode cX3_rearrange 40 = .ok (.aload_n 0, 1) := by decide +kernel
theorem dX3_rearrange_41 : decode cX3_rearrange 41 = .ok (.iload_n 2, 1) := by decide +kernel
theorem dX3_rearrange_42 : decode cX3_rearrange 42 = .ok (.putfield 18, 3) := by decide +kernel
theorem dX3_rearrange_45 : decode cX3_rearrange 45 = .ok (.iload_n 3, 1) := by decide +kernel
theorem dX3_rearrange_46 : decode cX3_rearrange 46 = .ok (.ireturn, 1) := by decide +kernel
theorem dX3_tell_0 : decode cX3_tell 0 = .ok (.iload_n 1, 1) := by decide +kernel
theorem dX3_tell_1 : decode cX3_tell 1 = .ok (.tableswitch 105 0 9 #[55, 60, 65, 70, 75, 80, 85, 90, 95, 100], 55) := by decide +kernel
theorem dX3_tell_56 : decode cX3_tell 56 = .ok (.aload_n 0, 1) := by decide +kernel
theorem dX3_tell_57 : decode cX3_tell 57 = .ok (.getfield 9, 3) := by decide +kernel
theorem dX3_tell_60 : decode cX3_tell 60 = .ok (.ireturn, 1) := by decide +kernel
theorem dX3_tell_61 : decode cX3_tell 61 = .ok (.aload_n 0, 1) := by decide +kernel
theorem dX3_tell_62 : decode cX3_tell 62 = .ok (.getfield 15, 3) := by decide +kernel
theorem dX3_tell_65 : decode cX3_tell 65 = .ok (.ireturn, 1) := by decide +kernel
theorem dX3_tell_66 : decode cX3_tell 66 = .ok (.aload_n 0, 1) := by decide +kernel
theorem dX3_tell_67 : decode cX3_tell 67 = .ok (.getfield 21, 3) := by decide +kernel
theorem dX3_tell_70 : decode cX3_tell 70 = .ok (.ireturn, 1) := by decide +kernel
theorem dX3_tell_71 : decode cX3_tell 71 = .ok (.aload_n 0, 1) := by decide +kernel
theorem dX3_tell_72 : decode cX3_tell 72 = .ok (.getfield 33, 3) := by decide +kernel
theorem dX3_tell_75 : decode cX3_tell 75 = .ok (.ireturn, 1) := by decide +kernel
theorem dX3_tell_76 : decode cX3_tell 76 = .ok (.aload_n 0, 1) := by decide +kernel
theorem dX3_tell_77 : decode cX3_tell 77 = .ok (.getfield 36, 3) := by decide +kernel
theorem dX3_tell_80 : decode cX3_tell 80 = .ok (.ireturn, 1) := by decide +kernel
theorem dX3_tell_81 : decode cX3_tell 81 = .ok (.aload_n 0, 1) := by decide +kernel
theorem dX3_tell_82 : decode cX3_tell 82 = .ok (.getfield 39, 3) := by decide +kernel
theorem dX3_tell_85 : decode cX3_tell 85 = .ok (.ireturn, 1) := by decide +kernel
theorem dX3_tell_86 : decode cX3_tell 86 = .ok (.aload_n 0, 1) := by decide +kernel
theorem dX3_tell_87 : decode cX3_tell 87 = .ok (.getfield 51, 3) := by decide +kernel
theorem dX3_tell_90 : decode cX3_tell 90 = .ok (.ireturn, 1) := by decide +kernel
theorem dX3_tell_91 : decode cX3_tell 91 = .ok (.aload_n 0, 1) := by decide +kernel
theorem dX3_tell_92 : decode cX3_tell 92 = .ok (.getfield 59, 3) := by decide +kernel
theorem dX3_tell_95 : decode cX3_tell 95 = .ok (.ireturn, 1) := by decide +kernel
theorem dX3_tell_96 : decode cX3_tell 96 = .ok (.aload_n 0, 1) := by decide +kernel
theorem dX3_tell_97 : decode cX3_tell 97 = .ok (.getfield 18, 3) := by decide +kernel
theorem dX3_tell_100 : decode cX3_tell 100 = .ok (.ireturn, 1) := by decide +kernel
theorem dX3_tell_101 : decode cX3_tell 101 = .ok (.aload_n 0, 1) := by decide +kernel
theorem dX3_tell_102 : decode cX3_tell 102 = .ok (.getfield 42, 3) := by decide +kernel
theorem dX3_tell_105 : decode cX3_tell 105 = .ok (.ireturn, 1) := by decide +kernel
theorem dX3_tell_106 : decode cX3_tell 106 = .ok (.iconst (-1), 1) := by decide +kernel
theorem dX3_tell_107 : decode cX3_tell 107 = .ok (.ireturn, 1) := by decide +kernel
theorem dX4_init_0 : decode cX4_init 0 = .ok (.aload_n 0, 1) := by decide +kernel
theorem dX4_init_1 : decode cX4_init 1 = .ok (.invokespecial 1, 3) := by decide +kernel
theorem dX4_init_4 : decode cX4_init 4 = .ok (.aload_n 0, 1) := by decide +kernel
theorem dX4_init_5 : decode cX4_init 5 = .ok (.iload_n 1, 1) := by decide +kernel
theorem dX4_init_6 : decode cX4_init 6 = .ok (.anewarray 7, 3) := by decide +kernel
theorem dX4_init_9 : decode cX4_init 9 = .ok (.putfield 9, 3) := by decide +kernel
theorem dX4_init_12 : decode cX4_init 12 = .ok (.return_, 1) := by decide +kernel
theorem dX4_at_0 : decode cX4_at 0 = .ok (.iload_n 1, 1) := by decide +kernel
theorem dX4_at_1 : decode cX4_at 1 = .ok (.ifCond .lt 11, 3) := by decide +kernel
theorem dX4_at_4 : decode cX4_at 4 = .ok (.iload_n 1, 1) := by decide +kernel
theorem dX4_at_5 : decode cX4_at 5 = .ok (.aload_n 0, 1) := by decide +kernel
theorem dX4_at_6 : decode cX4_at 6 = .ok (.getfield 15, 3) := by decide +kernel
theorem dX4_at_9 : decode cX4_at 9 = .ok (.if_icmp .lt 7, 3) := by decide +kernel
theorem dX4_at_12 : decode cX4_at 12 = .ok (.aconst_null, 1) := by decide +kernel
theorem dX4_at_13 : decode cX4_at 13 = .ok (.goto 9, 3) := by decide +kernel
theorem dX4_at_16 : decode cX4_at 16 = .ok (.aload_n 0, 1) := by decide +kernel
theorem dX4_at_17 : decode cX4_at 17 = .ok (.getfield 9, 3) := by decide +kernel
theorem dX4_at_20 : decode cX4_at 20 = .ok (.iload_n 1, 1) := by decide +kernel
theorem dX4_at_21 : decode cX4_at 21 = .ok (.aaload, 1) := by decide +kernel
theorem dX4_at_22 : decode cX4_at 22 = .ok (.areturn, 1) := by decide +kernel
theorem dX4_clear_0 : decode cX4_clear 0 = .ok (.aload_n 0, 1) := by decide +kernel
theorem dX4_clear_1 : decode cX4_clear 1 = .ok (.iconst 0, 1) := by decide +kernel
theorem dX4_clear_2 : decode cX4_clear 2 = .ok (.putfield 15, 3) := by decide +kernel
theorem dX4_clear_5 : decode cX4_clear 5 = .ok (.return_, 1) := by decide +kernel
theorem dX4_append_0 : decode cX4_append 0 = .ok (.aload_n 0, 1) := by decide +kernel
theorem dX4_append_1 : decode cX4_append 1 = .ok (.getfield 15, 3) := by decide +kernel
theorem dX4_append_4 : decode cX4_append 4 = .ok (.aload_n 0, 1) := by decide +kernel
theorem dX4_append_5 : decode cX4_append 5 = .ok (.getfield 9, 3) := by decide +kernel
theorem dX4_append_8 : decode cX4_append 8 = .ok (.arraylength, 1) := by decide +kernel
theorem dX4_append_9 : decode cX4_append 9 = .ok (.if_icmp .ge 23, 3) := by decide +kernel
theorem dX4_append_12 : decode cX4_append 12 = .ok (.aload_n 0, 1) := by decide +kernel
theorem dX4_append_13 : decode cX4_append 13 = .ok (.getfield 9, 3) := by decide +kernel
theorem dX4_append_16 : decode cX4_append 16 = .ok (.aload_n 0, 1) := by decide +kernel
theorem dX4_append_17 : decode cX4_append 17 = .ok (.getfield 15, 3) := by decide +kernel
theorem dX4_append_20 : decode cX4_append 20 = .ok (.aload_n 1, 1) := by decide +kernel
theorem dX4_append_21 : decode cX4_append 21 = .ok (.aastore, 1) := by decide +kernel
theorem dX4_append_22 : decode cX4_append 22 = .ok (.aload_n 0, 1) := by decide +kernel
theorem dX4_append_23 : decode cX4_append 23 = .ok (.dup, 1) := by decide +kernel
theorem dX4_append_24 : decode cX4_append 24 = .ok (.getfield 15, 3) := by decide +kernel
theorem dX4_append_27 : decode cX4_append 27 = .ok (.iconst 1, 1) := by decide +kernel
theorem dX4_append_28 : decode cX4_append 28 = .ok (.iadd, 1) := by decide +kernel
theorem dX4_append_29 : decode cX4_append 29 = .ok (.putfield 15, 3) := by decide +kernel
theorem dX4_append_32 : decode cX4_append 32 = .ok (.return_, 1) := by decide +kernel
theorem dX4_insertByNumber_0 : decode cX4_insertByNumber 0 = .ok (.aload_n 0, 1) := by decide +kernel
theorem dX4_insertByNumber_1 : decode cX4_insertByNumber 1 = .ok (.getfield 15, 3) := by decide +kernel
theorem dX4_insertByNumber_4 : decode cX4_insertByNumber 4 = .ok (.aload_n 0, 1) := by decide +kernel
theorem dX4_insertByNumber_5 : decode cX4_insertByNumber 5 = .ok (.getfield 9, 3) := by decide +kernel
theorem dX4_insertByNumber_8 : decode cX4_insertByNumber 8 = .ok (.arraylength, 1) := by decide +kernel
theorem dX4_insertByNumber_9 : decode cX4_insertByNumber 9 = .ok (.if_icmp .lt 4, 3) := by decide +kernel
theorem dX4_insertByNumber_12 : decode cX4_insertByNumber 12 = .ok (.return_, 1) := by decide +kernel
theorem dX4_insertByNumber_13 : decode cX4_insertByNumber 13 = .ok (.aload_n 0, 1) := by decide +kernel
theorem dX4_insertByNumber_14 : decode cX4_insertByNumber 14 = .ok (.getfield 15, 3) := by decide +kernel
theorem dX4_insertByNumber_17 : decode cX4_insertByNumber 17 = .ok (.istore_n 2, 1) := by decide +kernel
theorem dX4_insertByNumber_18 : decode cX4_insertByNumber 18 = .ok (.iload_n 2, 1) := by decide +kernel
theorem dX4_insertByNumber_19 : decode cX4_insertByNumber 19 = .ok (.ifCond .le 41, 3) := by decide +kernel
theorem dX4_insertByNumber_22 : decode cX4_insertByNumber 22 = .ok (.aload_n 0, 1) := by decide +kernel
theorem dX4_insertByNumber_23 : decode cX4_insertByNumber 23 = .ok (.getfield 9, 3) := by decide +kernel
theorem dX4_insertByNumber_26 : decode cX4_insertByNumber 26 = .ok (.iload_n 2, 1) := by decide +kernel
theorem dX4_insertByNumber_27 : decode cX4_insertByNumber 27 = .ok (.iconst 1, 1) := by decide +kernel
theorem dX4_insertByNumber_28 : decode cX4_insertByNumber 28 = .ok (.isub, 1) := by decide +kernel
theorem dX4_insertByNumber_29 : decode cX4_insertByNumber 29 = .ok (.aaload, 1) := by decide +kernel
theorem dX4_insertByNumber_30 : decode cX4_insertByNumber 30 = .ok (.getfield 19, 3) := by decide +kernel
theorem dX4_insertByNumber_33 : decode cX4_insertByNumber 33 = .ok (.aload_n 1, 1) := by decide +kernel
theorem dX4_insertByNumber_34 : decode cX4_insertByNumber 34 = .ok (.getfield 19, 3) := by decide +kernel
theorem dX4_insertByNumber_37 : decode cX4_insertByNumber 37 = .ok (.if_icmp .le 23, 3) := by decide +kernel
theorem dX4_insertByNumber_40 : decode cX4_insertByNumber 40 = .ok (.aload_n 0, 1) := by decide +kernel
theorem dX4_insertByNumber_41 : decode cX4_insertByNumber 41 = .ok (.getfield 9, 3) := by decide +kernel
theorem dX4_insertByNumber_44 : decode cX4_insertByNumber 44 = .ok (.iload_n 2, 1) := by decide +kernel
theorem dX4_insertByNumber_45 : decode cX4_insertByNumber 45 = .ok (.aload_n 0, 1) := by decide +kernel
theorem dX4_insertByNumber_46 : decode cX4_insertByNumber 46 = .ok (.getfield 9, 3) := by decide +kernel
theorem dX4_insertByNumber_49 : decode cX4_insertByNumber 49 = .ok (.iload_n 2, 1) := by decide +kernel
theorem dX4_insertByNumber_50 : decode cX4_insertByNumber 50 = .ok (.iconst 1, 1) := by decide +kernel
theorem dX4_insertByNumber_51 : decode cX4_insertByNumber 51 = .ok (.isub, 1) := by decide +kernel
theorem dX4_insertByNumber_52 : decode cX4_insertByNumber 52 = .ok (.aaload, 1) := by decide +kernel
theorem dX4_insertByNumber_53 : decode cX4_insertByNumber 53 = .ok (.aastore, 1) := by decide +kernel
theorem dX4_insertByNumber_54 : decode cX4_insertByNumber 54 = .ok (.iinc 2 (-1), 3) := by decide +kernel
theorem dX4_insertByNumber_57 : decode cX4_insertByNumber 57 = .ok (.goto (-39), 3) := by decide +kernel
theorem dX4_insertByNumber_60 : decode cX4_insertByNumber 60 = .ok (.aload_n 0, 1) := by decide +kernel
theorem dX4_insertByNumber_61 : decode cX4_insertByNumber 61 = .ok (.getfield 9, 3) := by decide +kernel
theorem dX4_insertByNumber_64 : decode cX4_insertByNumber 64 = .ok (.iload_n 2, 1) := by decide +kernel
theorem dX4_insertByNumber_65 : decode cX4_insertByNumber 65 = .ok (.aload_n 1, 1) := by decide +kernel
theorem dX4_insertByNumber_66 : decode cX4_insertByNumber 66 = .ok (.aastore, 1) := by decide +kernel
theorem dX4_insertByNumber_67 : decode cX4_insertByNumber 67 = .ok (.aload_n 0, 1) := by decide +kernel
theorem dX4_insertByNumber_68 : decode cX4_insertByNumber 68 = .ok (.dup, 1) := by decide +kernel
theorem dX4_insertByNumber_69 : decode cX4_insertByNumber 69 = .ok (.getfield 15, 3) := by decide +kernel
theorem dX4_insertByNumber_72 : decode cX4_insertByNumber 72 = .ok (.iconst 1, 1) := by decide +kernel
theorem dX4_insertByNumber_73 : decode cX4_insertByNumber 73 = .ok (.iadd, 1) := by decide +kernel
theorem dX4_insertByNumber_74 : decode cX4_insertByNumber 74 = .ok (.putfield 15, 3) := by decide +kernel
theorem dX4_insertByNumber_77 : decode cX4_insertByNumber 77 = .ok (.return_, 1) := by decide +kernel
theorem dX4_drop_0 : decode cX4_drop 0 = .ok (.iconst 0, 1) := by decide +kernel
theorem dX4_drop_1 : decode cX4_drop 1 = .ok (.istore_n 2, 1) := by decide +kernel
theorem dX4_drop_2 : decode cX4_drop 2 = .ok (.iconst 0, 1) := by decide +kernel
theorem dX4_drop_3 : decode cX4_drop 3 = .ok (.istore_n 3, 1) := by decide +kernel
theorem dX4_drop_4 : decode cX4_drop 4 = .ok (.iload_n 3, 1) := by decide +kernel
theorem dX4_drop_5 : decode cX4_drop 5 = .ok (.aload_n 0, 1) := by decide +kernel
theorem dX4_drop_6 : decode cX4_drop 6 = .ok (.getfield 15, 3) := by decide +kernel
theorem dX4_drop_9 : decode cX4_drop 9 = .ok (.if_icmp .ge 34, 3) := by decide +kernel
theorem dX4_drop_12 : decode cX4_drop 12 = .ok (.aload_n 0, 1) := by decide +kernel
theorem dX4_drop_13 : decode cX4_drop 13 = .ok (.getfield 9, 3) := by decide +kernel
theorem dX4_drop_16 : decode cX4_drop 16 = .ok (.iload_n 3, 1) := by decide +kernel
theorem dX4_drop_17 : decode cX4_drop 17 = .ok (.aaload, 1) := by decide +kernel
theorem dX4_drop_18 : decode cX4_drop 18 = .ok (.aload_n 1, 1) := by decide +kernel
theorem dX4_drop_19 : decode cX4_drop 19 = .ok (.if_acmp .eq 18, 3) := by decide +kernel
theorem dX4_drop_22 : decode cX4_drop 22 = .ok (.aload_n 0, 1) := by decide +kernel
theorem dX4_drop_23 : decode cX4_drop 23 = .ok (.getfield 9, 3) := by decide +kernel
theorem dX4_drop_26 : decode cX4_drop 26 = .ok (.iload_n 2, 1) := by decide +kernel
theorem dX4_drop_27 : decode cX4_drop 27 = .ok (.aload_n 0, 1) := by decide +kernel
theorem dX4_drop_28 : decode cX4_drop 28 = .ok (.getfield 9, 3) := by decide +kernel
theorem dX4_drop_31 : decode cX4_drop 31 = .ok (.iload_n 3, 1) := by decide +kernel
theorem dX4_drop_32 : decode cX4_drop 32 = .ok (.aaload, 1) := by decide +kernel
theorem dX4_drop_33 : decode cX4_drop 33 = .ok (.aastore, 1) := by decide +kernel
theorem dX4_drop_34 : decode cX4_drop 34 = .ok (.iinc 2 1, 3) := by decide +kernel
theorem dX4_drop_37 : decode cX4_drop 37 = .ok (.iinc 3 1, 3) := by decide +kernel
theorem dX4_drop_40 : decode cX4_drop 40 = .ok (.goto (-36), 3) := by decide +kernel
theorem dX4_drop_43 : decode cX4_drop 43 = .ok (.aload_n 0, 1) := by decide +kernel
theorem dX4_drop_44 : decode cX4_drop 44 = .ok (.iload_n 2, 1) := by decide +kernel
theorem dX4_drop_45 : decode cX4_drop 45 = .ok (.putfield 15, 3) := by decide +kernel
theorem dX4_drop_48 : decode cX4_drop 48 = .ok (.return_, 1) := by decide +kernel
theorem dX5_init_0 : decode cX5_init 0 = .ok (.aload_n 0, 1) := by decide +kernel
theorem dX5_init_1 : decode cX5_init 1 = .ok (.invokespecial 3, 3) := by decide +kernel
theorem dX5_init_4 : decode cX5_init 4 = .ok (.aload_n 0, 1) := by decide +kernel
theorem dX5_init_5 : decode cX5_init 5 = .ok (.sipush 400, 3) := by decide +kernel
theorem dX5_init_8 : decode cX5_init 8 = .ok (.newarray .int, 2) := by decide +kernel
theorem dX5_init_10 : decode cX5_init 10 = .ok (.putfield 9, 3) := by decide +kernel
theorem dX5_init_13 : decode cX5_init 13 = .ok (.aload_n 0, 1) := by decide +kernel
theorem dX5_init_14 : decode cX5_init 14 = .ok (.sipush 400, 3) := by decide +kernel
theorem dX5_init_17 : decode cX5_init 17 = .ok (.newarray .int, 2) := by decide +kernel
theorem dX5_init_19 : decode cX5_init 19 = .ok (.putfield 15, 3) := by decide +kernel
theorem dX5_init_22 : decode cX5_init 22 = .ok (.return_, 1) := by decide +kernel
theorem dX5_find_0 : decode cX5_find 0 = .ok (.iconst 0, 1) := by decide +kernel
theorem dX5_find_1 : decode cX5_find 1 = .ok (.istore_n 2, 1) := by decide +kernel
theorem dX5_find_2 : decode cX5_find 2 = .ok (.iload_n 2, 1) := by decide +kernel
theorem dX5_find_3 : decode cX5_find 3 = .ok (.aload_n 0, 1) := by decide +kernel
theorem dX5_find_4 : decode cX5_find 4 = .ok (.getfield 18, 3) := by decide +kernel
theorem dX5_find_7 : decode cX5_find 7 = .ok (.if_icmp .ge 21, 3) := by decide +kernel
theorem dX5_find_10 : decode cX5_find 10 = .ok (.aload_n 0, 1) := by decide +kernel
theorem dX5_find_11 : decode cX5_find 11 = .ok (.getfield 9, 3) := by decide +kernel
theorem dX5_find_14 : decode cX5_find 14 = .ok (.iload_n 2, 1) := by decide +kernel
theorem dX5_find_15 : decode cX5_find 15 = .ok (.iaload, 1) := by decide +kernel
theorem dX5_find_16 : decode cX5_find 16 = .ok (.iload_n 1, 1) := by decide +kernel
theorem dX5_find_17 : decode cX5_find 17 = .ok (.if_icmp .ne 5, 3) := by decide +kernel
theorem dX5_find_20 : decode cX5_find 20 = .ok (.iload_n 2, 1) := by decide +kernel
theorem dX5_find_21 : decode cX5_find 21 = .ok (.ireturn, 1) := by decide +kernel
theorem dX5_find_22 : decode cX5_find 22 = .ok (.iinc 2 1, 3) := by decide +kernel
theorem dX5_find_25 : decode cX5_find 25 = .ok (.goto (-23), 3) := by decide +kernel
theorem dX5_find_28 : decode cX5_find 28 = .ok (.iconst (-1), 1) := by decide +kernel
theorem dX5_find_29 : decode cX5_find 29 = .ok (.ireturn, 1) := by decide +kernel
theorem dX5_count_0 : decode cX5_count 0 = .ok (.aload_n 0, 1) := by decide +kernel
theorem dX5_count_1 : decode cX5_count 1 = .ok (.iload_n 1, 1) := by decide +kernel
theorem dX5_count_2 : decode cX5_count 2 = .ok (.invokevirtual 22, 3) := by decide +kernel
theorem dX5_count_5 : decode cX5_count 5 = .ok (.istore_n 2, 1) := by decide +kernel
theorem dX5_count_6 : decode cX5_count 6 = .ok (.iload_n 2, 1) := by decide +kernel
theorem dX5_count_7 : decode cX5_count 7 = .ok (.iconst (-1), 1) := by decide +kernel
theorem dX5_count_8 : decode cX5_count 8 = .ok (.if_icmp .ne 7, 3) := by decide +kernel
theorem dX5_count_11 : decode cX5_count 11 = .ok (.iconst 0, 1) := by decide +kernel
theorem dX5_count_12 : decode cX5_count 12 = .ok (.goto 9, 3) := by decide +kernel
theorem dX5_count_15 : decode cX5_count 15 = .ok (.aload_n 0, 1) := by decide +kernel
theorem dX5_count_16 : decode cX5_count 16 = .ok (.getfield 15, 3) := by decide +kernel
theorem dX5_count_19 : decode cX5_count 19 = .ok (.iload_n 2, 1) := by decide +kernel
theorem dX5_count_20 : decode cX5_count 20 = .ok (.iaload, 1) := by decide +kernel
theorem dX5_count_21 : decode cX5_count 21 = .ok (.ireturn, 1) := by decide +kernel
theorem dX5_add_0 : decode cX5_add 0 = .ok (.aload_n 0, 1) := by decide +kernel
theorem dX5_add_1 : decode cX5_add 1 = .ok (.iload_n 1, 1) := by decide +kernel
theorem dX5_add_2 : decode cX5_add 2 = .ok (.invokevirtual 22, 3) := by decide +kernel
theorem dX5_add_5 : decode cX5_add 5 = .ok (.istore_n 2, 1) := by decide +kernel
theorem dX5_add_6 : decode cX5_add 6 = .ok (.iload_n 2, 1) := by decide +kernel
theorem dX5_add_7 : decode cX5_add 7 = .ok (.iconst (-1), 1) := by decide +kernel
theorem dX5_add_8 : decode cX5_add 8 = .ok (.if_icmp .eq 16, 3) := by decide +kernel
theorem dX5_add_11 : decode cX5_add 11 = .ok (.aload_n 0, 1) := by decide +kernel
theorem dX5_add_12 : decode cX5_add 12 = .ok (.getfield 15, 3) := by decide +kernel
theorem dX5_add_15 : decode cX5_add 15 = .ok (.iload_n 2, 1) := by decide +kernel
theorem dX5_add_16 : decode cX5_add 16 = .ok (.dup2, 1) := by decide +kernel
theorem dX5_add_17 : decode cX5_add 17 = .ok (.iaload, 1) := by decide +kernel
theorem dX5_add_18 : decode cX5_add 18 = .ok (.iconst 1, 1) := by decide +kernel
theorem dX5_add_19 : decode cX5_add 19 = .ok (.iadd, 1) := by decide +kernel
theorem dX5_add_20 : decode cX5_add 20 = .ok (.iastore, 1) := by decide +kernel
theorem dX5_add_21 : decode cX5_add 21 = .ok (.goto 20, 3) := by decide +kernel
theorem dX5_add_24 : decode cX5_add 24 = .ok (.aload_n 0, 1) := by decide +kernel
theorem dX5_add_25 : decode cX5_add 25 = .ok (.getfield 18, 3) := by decide +kernel
theorem dX5_add_28 : decode cX5_add 28 = .ok (.aload_n 0, 1) := by decide +kernel
theorem dX5_add_29 : decode cX5_add 29 = .ok (.getfield 9, 3) := by decide +kernel
theorem dX5_add_32 : decode cX5_add 32 = .ok (.arraylength, 1) := by decide +kernel
theorem dX5_add_33 : decode cX5_add 33 = .ok (.if_icmp .ge 8, 3) := by decide +kernel
theorem dX5_add_36 : decode cX5_add 36 = .ok (.aload_n 0, 1) := by decide +kernel
theorem dX5_add_37 : decode cX5_add 37 = .ok (.iload_n 1, 1) := by decide +kernel
theorem dX5_add_38 : decode cX5_add 38 = .ok (.invokevirtual 26, 3) := by decide +kernel
theorem dX5_add_41 : decode cX5_add 41 = .ok (.return_, 1) := by decide +kernel
theorem dX5_insert_0 : decode cX5_insert 0 = .ok (.aload_n 0, 1) := by decide +kernel
theorem dX5_insert_1 : decode cX5_insert 1 = .ok (.getfield 18, 3) := by decide +kernel
theorem dX5_insert_4 : decode cX5_insert 4 = .ok (.istore_n 2, 1) := by decide +kernel
theorem dX5_insert_5 : decode cX5_insert 5 = .ok (.iload_n 2, 1) := by decide +kernel
theorem dX5_insert_6 : decode cX5_insert 6 = .ok (.ifCond .le 49, 3) := by decide +kernel
theorem dX5_insert_9 : decode cX5_insert 9 = .ok (.aload_n 0, 1) := by decide +kernel
theorem dX5_insert_10 : decode cX5_insert 10 = .ok (.getfield 9, 3) := by decide +kernel
theorem dX5_insert_13 : decode cX5_insert 13 = .ok (.iload_n 2, 1) := by decide +kernel
theorem dX5_insert_14 : decode cX5_insert 14 = .ok (.iconst 1, 1) := by decide +kernel
theorem dX5_insert_15 : decode cX5_insert 15 = .ok (.isub, 1) := by decide +kernel
theorem dX5_insert_16 : decode cX5_insert 16 = .ok (.iaload, 1) := by decide +kernel
theorem dX5_insert_17 : decode cX5_insert 17 = .ok (.iload_n 1, 1) := by decide +kernel
theorem dX5_insert_18 : decode cX5_insert 18 = .ok (.if_icmp .le 37, 3) := by decide +kernel
theorem dX5_insert_21 : decode cX5_insert 21 = .ok (.aload_n 0, 1) := by decide +kernel
theorem dX5_insert_22 : decode cX5_insert 22 = .ok (.getfield 9, 3) := by decide +kernel
theorem dX5_insert_25 : decode cX5_insert 25 = .ok (.iload_n 2, 1) := by decide +kernel
theorem dX5_insert_26 : decode cX5_insert 26 = .ok (.aload_n 0, 1) := by decide +kernel
theorem dX5_insert_27 : decode cX5_insert 27 = .ok (.getfield 9, 3) := by decide +kernel
theorem dX5_insert_30 : decode cX5_insert 30 = .ok (.iload_n 2, 1) := by decide +kernel
theorem dX5_insert_31 : decode cX5_insert 31 = .ok (.iconst 1, 1) := by decide +kernel
theorem dX5_insert_32 : decode cX5_insert 32 = .ok (.isub, 1) := by decide +kernel
theorem dX5_insert_33 : decode cX5_insert 33 = .ok (.iaload, 1) := by decide +kernel
theorem dX5_insert_34 : decode cX5_insert 34 = .ok (.iastore, 1) := by decide +kernel
theorem dX5_insert_35 : decode cX5_insert 35 = .ok (.aload_n 0, 1) := by decide +kernel
theorem dX5_insert_36 : decode cX5_insert 36 = .ok (.getfield 15, 3) := by decide +kernel
theorem dX5_insert_39 : decode cX5_insert 39 = .ok (.iload_n 2, 1) := by decide +kernel
theorem dX5_insert_40 : decode cX5_insert 40 = .ok (.aload_n 0, 1) := by decide +kernel
theorem dX5_insert_41 : decode cX5_insert 41 = .ok (.getfield 15, 3) := by decide +kernel
theorem dX5_insert_44 : decode cX5_insert 44 = .ok (.iload_n 2, 1) := by decide +kernel
theorem dX5_insert_45 : decode cX5_insert 45 = .ok (.iconst 1, 1) := by decide +kernel
theorem dX5_insert_46 : decode cX5_insert 46 = .ok (.isub, 1) := by decide +kernel
theorem dX5_insert_47 : decode cX5_insert 47 = .ok (.iaload, 1) := by decide +kernel
theorem dX5_insert_48 : decode cX5_insert 48 = .ok (.iastore, 1) := by decide +kernel
theorem dX5_insert_49 : decode cX5_insert 49 = .ok (.iinc 2 (-1), 3) := by decide +kernel
theorem dX5_insert_52 : decode cX5_insert 52 = .ok (.goto (-47), 3) := by decide +kernel
theorem dX5_insert_55 : decode cX5_insert 55 = .ok (.aload_n 0, 1) := by decide +kernel
theorem dX5_insert_56 : decode cX5_insert 56 = .ok (.getfield 9, 3) := by decide +kernel
theorem dX5_insert_59 : decode cX5_insert 59 = .ok (.iload_n 2, 1) := by decide +kernel
theorem dX5_insert_60 : decode cX5_insert 60 = .ok (.iload_n 1, 1) := by decide +kernel
theorem dX5_insert_61 : decode cX5_insert 61 = .ok (.iastore, 1) := by decide +kernel
theorem dX5_insert_62 : decode cX5_insert 62 = .ok (.aload_n 0, 1) := by decide +kernel
theorem dX5_insert_63 : decode cX5_insert 63 = .ok (.getfield 15, 3) := by decide +kernel
theorem dX5_insert_66 : decode cX5_insert 66 = .ok (.iload_n 2, 1) := by decide +kernel
theorem dX5_insert_67 : decode cX5_insert 67 = .ok (.iconst 1, 1) := by decide +kernel
theorem dX5_insert_68 : decode cX5_insert 68 = .ok (.iastore, 1) := by decide +kernel
theorem dX5_insert_69 : decode cX5_insert 69 = .ok (.aload_n 0, 1) := by decide +kernel
theorem dX5_insert_70 : decode cX5_insert 70 = .ok (.dup, 1) := by decide +kernel
theorem dX5_insert_71 : decode cX5_insert 71 = .ok (.getfield 18, 3) := by decide +kernel
theorem dX5_insert_74 : decode cX5_insert 74 = .ok (.iconst 1, 1) := by decide +kernel
theorem dX5_insert_75 : decode cX5_insert 75 = .ok (.iadd, 1) := by decide +kernel
theorem dX5_insert_76 : decode cX5_insert 76 = .ok (.putfield 18, 3) := by decide +kernel
theorem dX5_insert_79 : decode cX5_insert 79 = .ok (.return_, 1) := by decide +kernel
theorem dX5_forget_0 : decode cX5_forget 0 = .ok (.aload_n 0, 1) := by decide +kernel
theorem dX5_forget_1 : decode cX5_forget 1 = .ok (.iload_n 1, 1) := by decide +kernel
theorem dX5_forget_2 : decode cX5_forget 2 = .ok (.invokevirtual 22, 3) := by decide +kernel
theorem dX5_forget_5 : decode cX5_forget 5 = .ok (.istore_n 2, 1) := by decide +kernel
theorem dX5_forget_6 : decode cX5_forget 6 = .ok (.iload_n 2, 1) := by decide +kernel
theorem dX5_forget_7 : decode cX5_forget 7 = .ok (.iconst (-1), 1) := by decide +kernel
theorem dX5_forget_8 : decode cX5_forget 8 = .ok (.if_icmp .eq 10, 3) := by decide +kernel
theorem dX5_forget_11 : decode cX5_forget 11 = .ok (.aload_n 0, 1) := by decide +kernel
theorem dX5_forget_12 : decode cX5_forget 12 = .ok (.getfield 15, 3) := by decide +kernel
theorem dX5_forget_15 : decode cX5_forget 15 = .ok (.iload_n 2, 1) := by decide +kernel
theorem dX5_forget_16 : decode cX5_forget 16 = .ok (.iconst 0, 1) := by decide +kernel
theorem dX5_forget_17 : decode cX5_forget 17 = .ok (.iastore, 1) := by decide +kernel
theorem dX5_forget_18 : decode cX5_forget 18 = .ok (.return_, 1) := by decide +kernel
theorem dX5_kthWith_0 : decode cX5_kthWith 0 = .ok (.iconst 0, 1) := by decide +kernel
theorem dX5_kthWith_1 : decode cX5_kthWith 1 = .ok (.istore_n 3, 1) := by decide +kernel
theorem dX5_kthWith_2 : decode cX5_kthWith 2 = .ok (.iconst 0, 1) := by decide +kernel
theorem dX5_kthWith_3 : decode cX5_kthWith 3 = .ok (.istore 4, 2) := by decide +kernel
theorem dX5_kthWith_5 : decode cX5_kthWith 5 = .ok (.iload 4, 2) := by decide +kernel
theorem dX5_kthWith_7 : decode cX5_kthWith 7 = .ok (.aload_n 0, 1) := by decide +kernel
theorem dX5_kthWith_8 : decode cX5_kthWith 8 = .ok (.getfield 18, 3) := by decide +kernel
theorem dX5_kthWith_11 : decode cX5_kthWith 11 = .ok (.if_icmp .ge 39, 3) := by decide +kernel
theorem dX5_kthWith_14 : decode cX5_kthWith 14 = .ok (.aload_n 0, 1) := by decide +kernel
theorem dX5_kthWith_15 : decode cX5_kthWith 15 = .ok (.getfield 15, 3) := by decide +kernel
theorem dX5_kthWith_18 : decode cX5_kthWith 18 = .ok (.iload 4, 2) := by decide +kernel
theorem dX5_kthWith_20 : decode cX5_kthWith 20 = .ok (.iaload, 1) := by decide +kernel
theorem dX5_kthWith_21 : decode cX5_kthWith 21 = .ok (.iload_n 1, 1) := by decide +kernel
theorem dX5_kthWith_22 : decode cX5_kthWith 22 = .ok (.if_icmp .ge 6, 3) := by decide +kernel
theorem dX5_kthWith_25 : decode cX5_kthWith 25 = .ok (.goto 19, 3) := by decide +kernel
theorem dX5_kthWith_28 : decode cX5_kthWith 28 = .ok (.iload_n 3, 1) := by decide +kernel
theorem dX5_kthWith_29 : decode cX5_kthWith 29 = .ok (.iload_n 2, 1) := by decide +kernel
theorem dX5_kthWith_30 : decode cX5_kthWith 30 = .ok (.if_icmp .ne 11, 3) := by decide +kernel
theorem dX5_kthWith_33 : decode cX5_kthWith 33 = .ok (.aload_n 0, 1) := by decide +kernel
theorem dX5_kthWith_34 : decode cX5_kthWith 34 = .ok (.getfield 9, 3) := by decide +kernel
theorem dX5_kthWith_37 : decode cX5_kthWith 37 = .ok (.iload 4, 2) := by decide +kernel
theorem dX5_kthWith_39 : decode cX5_kthWith 39 = .ok (.iaload, 1) := by decide +kernel
theorem dX5_kthWith_40 : decode cX5_kthWith 40 = .ok (.ireturn, 1) := by decide +kernel
theorem dX5_kthWith_41 : decode cX5_kthWith 41 = .ok (.iinc 3 1, 3) := by decide +kernel
theorem dX5_kthWith_44 : decode cX5_kthWith 44 = .ok (.iinc 4 1, 3) := by decide +kernel
theorem dX5_kthWith_47 : decode cX5_kthWith 47 = .ok (.goto (-42), 3) := by decide +kernel
theorem dX5_kthWith_50 : decode cX5_kthWith 50 = .ok (.iconst (-1), 1) := by decide +kernel
theorem dX5_kthWith_51 : decode cX5_kthWith 51 = .ok (.ireturn, 1) := by decide +kernel
theorem dX6_init_0 : decode cX6_init 0 = .ok (.aload_n 0, 1) := by decide +kernel
theorem dX6_init_1 : decode cX6_init 1 = .ok (.invokespecial 3, 3) := by decide +kernel
theorem dX6_init_4 : decode cX6_init 4 = .ok (.aload_n 0, 1) := by decide +kernel
theorem dX6_init_5 : decode cX6_init 5 = .ok (.iconst (-1), 1) := by decide +kernel
theorem dX6_init_6 : decode cX6_init 6 = .ok (.putfield 9, 3) := by decide +kernel
theorem dX6_init_9 : decode cX6_init 9 = .ok (.aload_n 0, 1) := by decide +kernel
theorem dX6_init_10 : decode cX6_init 10 = .ok (.iconst (-1), 1) := by decide +kernel
theorem dX6_init_11 : decode cX6_init 11 = .ok (.putfield 15, 3) := by decide +kernel
theorem dX6_init_14 : decode cX6_init 14 = .ok (.aload_n 0, 1) := by decide +kernel
theorem dX6_init_15 : decode cX6_init 15 = .ok (.iconst (-1), 1) := by decide +kernel
theorem dX6_init_16 : decode cX6_init 16 = .ok (.putfield 18, 3) := by decide +kernel
theorem dX6_init_19 : decode cX6_init 19 = .ok (.aload_n 0, 1) := by decide +kernel
theorem dX6_init_20 : decode cX6_init 20 = .ok (.iload_n 1, 1) := by decide +kernel
theorem dX6_init_21 : decode cX6_init 21 = .ok (.putfield 21, 3) := by decide +kernel
theorem dX6_init_24 : decode cX6_init 24 = .ok (.aload_n 0, 1) := by decide +kernel
theorem dX6_init_25 : decode cX6_init 25 = .ok (.aload_n 2, 1) := by decide +kernel
theorem dX6_init_26 : decode cX6_init 26 = .ok (.putfield 24, 3) := by decide +kernel
theorem dX6_init_29 : decode cX6_init 29 = .ok (.aload_n 0, 1) := by decide +kernel
theorem dX6_init_30 : decode cX6_init 30 = .ok (.aload_n 3, 1) := by decide +kernel
theorem dX6_init_31 : decode cX6_init 31 = .ok (.putfield 28, 3) := by decide +kernel
theorem dX6_init_34 : decode cX6_init 34 = .ok (.return_, 1) := by decide +kernel
theorem dX6_copyFrom_0 : decode cX6_copyFrom 0 = .ok (.aload_n 0, 1) := by decide +kernel
theorem dX6_copyFrom_1 : decode cX6_copyFrom 1 = .ok (.aload_n 1, 1) := by decide +kernel
theorem dX6_copyFrom_2 : decode cX6_copyFrom 2 = .ok (.getfield 21, 3) := by decide +kernel
theorem dX6_copyFrom_5 : decode cX6_copyFrom 5 = .ok (.putfield 21, 3) := by decide +kernel
theorem dX6_copyFrom_8 : decode cX6_copyFrom 8 = .ok (.aload_n 0, 1) := by decide +kernel
theorem dX6_copyFrom_9 : decode cX6_copyFrom 9 = .ok (.aload_n 1, 1) := by decide +kernel
theorem dX6_copyFrom_10 : decode cX6_copyFrom 10 = .ok (.getfield 28, 3) := by decide +kernel
theorem dX6_copyFrom_13 : decode cX6_copyFrom 13 = .ok (.putfield 28, 3) := by decide +kernel
theorem dX6_copyFrom_16 : decode cX6_copyFrom 16 = .ok (.aload_n 0, 1) := by decide +kernel
theorem dX6_copyFrom_17 : decode cX6_copyFrom 17 = .ok (.aload_n 2, 1) := by decide +kernel
theorem dX6_copyFrom_18 : decode cX6_copyFrom 18 = .ok (.putfield 24, 3) := by decide +kernel
theorem dX6_copyFrom_21 : decode cX6_copyFrom 21 = .ok (.aload_n 0, 1) := by decide +kernel
theorem dX6_copyFrom_22 : decode cX6_copyFrom 22 = .ok (.aload_n 1, 1) := by decide +kernel
theorem dX6_copyFrom_23 : decode cX6_copyFrom 23 = .ok (.getfield 32, 3) := by decide +kernel
theorem dX6_copyFrom_26 : decode cX6_copyFrom 26 = .ok (.putfield 32, 3) := by decide +kernel
theorem dX6_copyFrom_29 : decode cX6_copyFrom 29 = .ok (.aload_n 0, 1) := by decide +kernel
theorem dX6_copyFrom_30 : decode cX6_copyFrom 30 = .ok (.aload_n 1, 1) := by decide +kernel
theorem dX6_copyFrom_31 : decode cX6_copyFrom 31 = .ok (.getfield 35, 3) := by decide +kernel
theorem dX6_copyFrom_34 : decode cX6_copyFrom 34 = .ok (.putfield 35, 3) := by decide +kernel
theorem dX6_copyFrom_37 : decode cX6_copyFrom 37 = .ok (.aload_n 0, 1) := by decide +kernel
theorem dX6_copyFrom_38 : decode cX6_copyFrom 38 = .ok (.aload_n 1, 1) := by decide +kernel
theorem dX6_copyFrom_39 : decode cX6_copyFrom 39 = .ok (.getfield 38, 3) := by decide +kernel
theorem dX6_copyFrom_42 : decode cX6_copyFrom 42 = .ok (.putfield 38, 3) := by decide +kernel
theorem dX6_copyFrom_45 : decode cX6_copyFrom 45 = .ok (.aload_n 0, 1) := by decide +kernel
theorem dX6_copyFrom_46 : decode cX6_copyFrom 46 = .ok (.aload_n 1, 1) := by decide +kernel
theorem dX6_copyFrom_47 : decode cX6_copyFrom 47 = .ok (.getfield 9, 3) := by decide +kernel
theorem dX6_copyFrom_50 : decode cX6_copyFrom 50 = .ok (.putfield 9, 3) := by decide +kernel
theorem dX6_copyFrom_53 : decode cX6_copyFrom 53 = .ok (.aload_n 0, 1) := by decide +kernel
theorem dX6_copyFrom_54 : decode cX6_copyFrom 54 = .ok (.aload_n 1, 1) := by decide +kernel
theorem dX6_copyFrom_55 : decode cX6_copyFrom 55 = .ok (.getfield 41, 3) := by decide +kernel
theorem dX6_copyFrom_58 : decode cX6_copyFrom 58 = .ok (.putfield 41, 3) := by decide +kernel
theorem dX6_copyFrom_61 : decode cX6_copyFrom 61 = .ok (.aload_n 0, 1) := by decide +kernel
theorem dX6_copyFrom_62 : decode cX6_copyFrom 62 = .ok (.aload_n 1, 1) := by decide +kernel
theorem dX6_copyFrom_63 : decode cX6_copyFrom 63 = .ok (.getfield 44, 3) := by decide +kernel
theorem dX6_copyFrom_66 : decode cX6_copyFrom 66 = .ok (.putfield 44, 3) := by decide +kernel
theorem dX6_copyFrom_69 : decode cX6_copyFrom 69 = .ok (.return_, 1) := by decide +kernel
theorem dX6_stands_0 : decode cX6_stands 0 = .ok (.aload_n 0, 1) := by decide +kernel
theorem dX6_stands_1 : decode cX6_stands 1 = .ok (.getfield 9, 3) := by decide +kernel
theorem dX6_stands_4 : decode cX6_stands 4 = .ok (.ifCond .lt 15, 3) := by decide +kernel
theorem dX6_stands_7 : decode cX6_stands 7 = .ok (.aload_n 0, 1) := by decide +kernel
theorem dX6_stands_8 : decode cX6_stands 8 = .ok (.getfield 9, 3) := by decide +kernel
theorem dX6_stands_11 : decode cX6_stands 11 = .ok (.iconst 3, 1) := by decide +kernel
theorem dX6_stands_12 : decode cX6_stands 12 = .ok (.if_icmp .gt 7, 3) := by decide +kernel
theorem dX6_stands_15 : decode cX6_stands 15 = .ok (.iconst 1, 1) := by decide +kernel
theorem dX6_stands_16 : decode cX6_stands 16 = .ok (.goto 4, 3) := by decide +kernel
theorem dX6_stands_19 : decode cX6_stands 19 = .ok (.iconst 0, 1) := by decide +kernel
theorem dX6_stands_20 : decode cX6_stands 20 = .ok (.ireturn, 1) := by decide +kernel
theorem dX6_isLoose_0 : decode cX6_isLoose 0 = .ok (.aload_n 0, 1) := by decide +kernel
theorem dX6_isLoose_1 : decode cX6_isLoose 1 = .ok (.getfield 9, 3) := by decide +kernel
theorem dX6_isLoose_4 : decode cX6_isLoose 4 = .ok (.ifCond .lt 15, 3) := by decide +kernel
theorem dX6_isLoose_7 : decode cX6_isLoose 7 = .ok (.aload_n 0, 1) := by decide +kernel
theorem dX6_isLoose_8 : decode cX6_isLoose 8 = .ok (.getfield 9, 3) := by decide +kernel
theorem dX6_isLoose_11 : decode cX6_isLoose 11 = .ok (.iconst 2, 1) := by decide +kernel
theorem dX6_isLoose_12 : decode cX6_isLoose 12 = .ok (.if_icmp .gt 7, 3) := by decide +kernel
theorem dX6_isLoose_15 : decode cX6_isLoose 15 = .ok (.iconst 1, 1) := by decide +kernel
theorem dX6_isLoose_16 : decode cX6_isLoose 16 = .ok (.goto 4, 3) := by decide +kernel
theorem dX6_isLoose_19 : decode cX6_isLoose 19 = .ok (.iconst 0, 1) := by decide +kernel
theorem dX6_isLoose_20 : decode cX6_isLoose 20 = .ok (.ireturn, 1) := by decide +kernel
theorem dX6_isBehindLost_0 : decode cX6_isBehindLost 0 = .ok (.aload_n 0, 1) := by decide +kernel
theorem dX6_isBehindLost_1 : decode cX6_isBehindLost 1 = .ok (.getfield 28, 3) := by decide +kernel
theorem dX6_isBehindLost_4 : decode cX6_isBehindLost 4 = .ok (.ifnull 30, 3) := by decide +kernel
theorem dX6_isBehindLost_7 : decode cX6_isBehindLost 7 = .ok (.aload_n 0, 1) := by decide +kernel
theorem dX6_isBehindLost_8 : decode cX6_isBehindLost 8 = .ok (.getfield 28, 3) := by decide +kernel
theorem dX6_isBehindLost_11 : decode cX6_isBehindLost 11 = .ok (.getfield 9, 3) := by decide +kernel
theorem dX6_isBehindLost_14 : decode cX6_isBehindLost 14 = .ok (.iconst 5, 1) := by decide +kernel
theorem dX6_isBehindLost_15 : decode cX6_isBehindLost 15 = .ok (.if_icmp .eq 15, 3) := by decide +kernel
theorem dX6_isBehindLost_18 : decode cX6_isBehindLost 18 = .ok (.aload_n 0, 1) := by decide +kernel
theorem dX6_isBehindLost_19 : decode cX6_isBehindLost 19 = .ok (.getfield 28, 3) := by decide +kernel
theorem dX6_isBehindLost_22 : decode cX6_isBehindLost 22 = .ok (.getfield 9, 3) := by decide +kernel
theorem dX6_isBehindLost_25 : decode cX6_isBehindLost 25 = .ok (.bipush 6, 2) := by decide +kernel
theorem dX6_isBehindLost_27 : decode cX6_isBehindLost 27 = .ok (.if_icmp .ne 7, 3) := by decide +kernel
theorem dX6_isBehindLost_30 : decode cX6_isBehindLost 30 = .ok (.iconst 1, 1) := by decide +kernel
theorem dX6_isBehindLost_31 : decode cX6_isBehindLost 31 = .ok (.goto 4, 3) := by decide +kernel
theorem dX6_isBehindLost_34 : decode cX6_isBehindLost 34 = .ok (.iconst 0, 1) := by decide +kernel
theorem dX6_isBehindLost_35 : decode cX6_isBehindLost 35 = .ok (.ireturn, 1) := by decide +kernel
theorem dX6_endsBy_0 : decode cX6_endsBy 0 = .ok (.aload_n 0, 1) := by decide +kernel
theorem dX6_endsBy_1 : decode cX6_endsBy 1 = .ok (.getfield 9, 3) := by decide +kernel
theorem dX6_endsBy_4 : decode cX6_endsBy 4 = .ok (.iconst 3, 1) := by decide +kernel
theorem dX6_endsBy_5 : decode cX6_endsBy 5 = .ok (.if_icmp .ne 15, 3) := by decide +kernel
theorem dX6_endsBy_8 : decode cX6_endsBy 8 = .ok (.aload_n 0, 1) := by decide +kernel
theorem dX6_endsBy_9 : decode cX6_endsBy 9 = .ok (.getfield 44, 3) := by decide +kernel
theorem dX6_endsBy_12 : decode cX6_endsBy 12 = .ok (.iload_n 1, 1) := by decide +kernel
theorem dX6_endsBy_13 : decode cX6_endsBy 13 = .ok (.if_icmp .gt 7, 3) := by decide +kernel
theorem dX6_endsBy_16 : decode cX6_endsBy 16 = .ok (.iconst 1, 1) := by decide +kernel
theorem dX6_endsBy_17 : decode cX6_endsBy 17 = .ok (.goto 4, 3) := by decide +kernel
theorem dX6_endsBy_20 : decode cX6_endsBy 20 = .ok (.iconst 0, 1) := by decide +kernel
theorem dX6_endsBy_21 : decode cX6_endsBy 21 = .ok (.ireturn, 1) := by decide +kernel
theorem dX6_dueBy_0 : decode cX6_dueBy 0 = .ok (.aload_n 0, 1) := by decide +kernel
theorem dX6_dueBy_1 : decode cX6_dueBy 1 = .ok (.getfield 9, 3) := by decide +kernel
theorem dX6_dueBy_4 : decode cX6_dueBy 4 = .ok (.iconst 2, 1) := by decide +kernel
theorem dX6_dueBy_5 : decode cX6_dueBy 5 = .ok (.if_icmp .ne 15, 3) := by decide +kernel
theorem dX6_dueBy_8 : decode cX6_dueBy 8 = .ok (.aload_n 0, 1) := by decide +kernel
theorem dX6_dueBy_9 : decode cX6_dueBy 9 = .ok (.getfield 41, 3) := by decide +kernel
theorem dX6_dueBy_12 : decode cX6_dueBy 12 = .ok (.iload_n 1, 1) := by decide +kernel
theorem dX6_dueBy_13 : decode cX6_dueBy 13 = .ok (.if_icmp .gt 7, 3) := by decide +kernel
theorem dX6_dueBy_16 : decode cX6_dueBy 16 = .ok (.iconst 1, 1) := by decide +kernel
theorem dX6_dueBy_17 : decode cX6_dueBy 17 = .ok (.goto 4, 3) := by decide +kernel
theorem dX6_dueBy_20 : decode cX6_dueBy 20 = .ok (.iconst 0, 1) := by decide +kernel
theorem dX6_dueBy_21 : decode cX6_dueBy 21 = .ok (.ireturn, 1) := by decide +kernel
theorem dX6_rankBy_0 : decode cX6_rankBy 0 = .ok (.aload_n 0, 1) := by decide +kernel
theorem dX6_rankBy_1 : decode cX6_rankBy 1 = .ok (.getfield 32, 3) := by decide +kernel
theorem dX6_rankBy_4 : decode cX6_rankBy 4 = .ok (.iload_n 1, 1) := by decide +kernel
theorem dX6_rankBy_5 : decode cX6_rankBy 5 = .ok (.imul, 1) := by decide +kernel
theorem dX6_rankBy_6 : decode cX6_rankBy 6 = .ok (.aload_n 0, 1) := by decide +kernel
theorem dX6_rankBy_7 : decode cX6_rankBy 7 = .ok (.getfield 38, 3) := by decide +kernel
theorem dX6_rankBy_10 : decode cX6_rankBy 10 = .ok (.isub, 1) := by decide +kernel
theorem dX6_rankBy_11 : decode cX6_rankBy 11 = .ok (.ireturn, 1) := by decide +kernel
theorem dX6_giveTo_0 : decode cX6_giveTo 0 = .ok (.aload_n 0, 1) := by decide +kernel
theorem dX6_giveTo_1 : decode cX6_giveTo 1 = .ok (.aload_n 1, 1) := by decide +kernel
theorem dX6_giveTo_2 : decode cX6_giveTo 2 = .ok (.putfield 47, 3) := by decide +kernel
theorem dX6_giveTo_5 : decode cX6_giveTo 5 = .ok (.aload_n 0, 1) := by decide +kernel
theorem dX6_giveTo_6 : decode cX6_giveTo 6 = .ok (.iload_n 2, 1) := by decide +kernel
theorem dX6_giveTo_7 : decode cX6_giveTo 7 = .ok (.putfield 51, 3) := by decide +kernel
theorem dX6_giveTo_10 : decode cX6_giveTo 10 = .ok (.aload_n 0, 1) := by decide +kernel
theorem dX6_giveTo_11 : decode cX6_giveTo 11 = .ok (.iload_n 3, 1) := by decide +kernel
theorem dX6_giveTo_12 : decode cX6_giveTo 12 = .ok (.putfield 44, 3) := by decide +kernel
theorem dX6_giveTo_15 : decode cX6_giveTo 15 = .ok (.aload_n 1, 1) := by decide +kernel
theorem dX6_giveTo_16 : decode cX6_giveTo 16 = .ok (.aload_n 0, 1) := by decide +kernel
theorem dX6_giveTo_17 : decode cX6_giveTo 17 = .ok (.putfield 54, 3) := by decide +kernel
theorem dX6_giveTo_20 : decode cX6_giveTo 20 = .ok (.return_, 1) := by decide +kernel
theorem dX6_letGo_0 : decode cX6_letGo 0 = .ok (.aload_n 0, 1) := by decide +kernel
theorem dX6_letGo_1 : decode cX6_letGo 1 = .ok (.getfield 47, 3) := by decide +kernel
theorem dX6_letGo_4 : decode cX6_letGo 4 = .ok (.astore_n 1, 1) := by decide +kernel
theorem dX6_letGo_5 : decode cX6_letGo 5 = .ok (.aload_n 1, 1) := by decide +kernel
theorem dX6_letGo_6 : decode cX6_letGo 6 = .ok (.ifnull 8, 3) := by decide +kernel
theorem dX6_letGo_9 : decode cX6_letGo 9 = .ok (.aload_n 1, 1) := by decide +kernel
theorem dX6_letGo_10 : decode cX6_letGo 10 = .ok (.aconst_null, 1) := by decide +kernel
theorem dX6_letGo_11 : decode cX6_letGo 11 = .ok (.putfield 54, 3) := by decide +kernel
theorem dX6_letGo_14 : decode cX6_letGo 14 = .ok (.aload_n 0, 1) := by decide +kernel
theorem dX6_letGo_15 : decode cX6_letGo 15 = .ok (.aconst_null, 1) := by decide +kernel
theorem dX6_letGo_16 : decode cX6_letGo 16 = .ok (.putfield 47, 3) := by decide +kernel
theorem dX6_letGo_19 : decode cX6_letGo 19 = .ok (.aload_n 1, 1) := by decide +kernel
theorem dX6_letGo_20 : decode cX6_letGo 20 = .ok (.areturn, 1) := by decide +kernel
theorem dX6_addCause_0 : decode cX6_addCause 0 = .ok (.aload_n 0, 1) := by decide +kernel
theorem dX6_addCause_1 : decode cX6_addCause 1 = .ok (.iload_n 1, 1) := by decide +kernel
theorem dX6_addCause_2 : decode cX6_addCause 2 = .ok (.putfield 18, 3) := by decide +kernel
theorem dX6_addCause_5 : decode cX6_addCause 5 = .ok (.aload_n 0, 1) := by decide +kernel
theorem dX6_addCause_6 : decode cX6_addCause 6 = .ok (.getfield 59, 3) := by decide +kernel
theorem dX6_addCause_9 : decode cX6_addCause 9 = .ok (.ifnonnull 11, 3) := by decide +kernel
theorem dX6_addCause_12 : decode cX6_addCause 12 = .ok (.aload_n 0, 1) := by decide +kernel
theorem dX6_addCause_13 : decode cX6_addCause 13 = .ok (.bipush 20, 2) := by decide +kernel
theorem dX6_addCause_15 : decode cX6_addCause 15 = .ok (.newarray .int, 2) := by decide +kernel
theorem dX6_addCause_17 : decode cX6_addCause 17 = .ok (.putfield 59, 3) := by decide +kernel
theorem dX6_addCause_20 : decode cX6_addCause 20 = .ok (.aload_n 0, 1) := by decide +kernel
theorem dX6_addCause_21 : decode cX6_addCause 21 = .ok (.getfield 63, 3) := by decide +kernel
theorem dX6_addCause_24 : decode cX6_addCause 24 = .ok (.bipush 20, 2) := by decide +kernel
theorem dX6_addCause_26 : decode cX6_addCause 26 = .ok (.if_icmp .ge 23, 3) := by decide +kernel
theorem dX6_addCause_29 : decode cX6_addCause 29 = .ok (.aload_n 0, 1) := by decide +kernel
theorem dX6_addCause_30 : decode cX6_addCause 30 = .ok (.getfield 59, 3) := by decide +kernel
theorem dX6_addCause_33 : decode cX6_addCause 33 = .ok (.aload_n 0, 1) := by decide +kernel
theorem dX6_addCause_34 : decode cX6_addCause 34 = .ok (.getfield 63, 3) := by decide +kernel
theorem dX6_addCause_37 : decode cX6_addCause 37 = .ok (.iload_n 1, 1) := by decide +kernel
theorem dX6_addCause_38 : decode cX6_addCause 38 = .ok (.iastore, 1) := by decide +kernel
theorem dX6_addCause_39 : decode cX6_addCause 39 = .ok (.aload_n 0, 1) := by decide +kernel
theorem dX6_addCause_40 : decode cX6_addCause 40 = .ok (.dup, 1) := by decide +kernel
theorem dX6_addCause_41 : decode cX6_addCause 41 = .ok (.getfield 63, 3) := by decide +kernel
theorem dX6_addCause_44 : decode cX6_addCause 44 = .ok (.iconst 1, 1) := by decide +kernel
theorem dX6_addCause_45 : decode cX6_addCause 45 = .ok (.iadd, 1) := by decide +kernel
theorem dX6_addCause_46 : decode cX6_addCause 46 = .ok (.putfield 63, 3) := by decide +kernel
theorem dX6_addCause_49 : decode cX6_addCause 49 = .ok (.return_, 1) := by decide +kernel
theorem dX6_causeAt_0 : decode cX6_causeAt 0 = .ok (.iload_n 1, 1) := by decide +kernel
theorem dX6_causeAt_1 : decode cX6_causeAt 1 = .ok (.iconst (-1), 1) := by decide +kernel
theorem dX6_causeAt_2 : decode cX6_causeAt 2 = .ok (.if_icmp .ne 8, 3) := by decide +kernel
theorem dX6_causeAt_5 : decode cX6_causeAt 5 = .ok (.aload_n 0, 1) := by decide +kernel
theorem dX6_causeAt_6 : decode cX6_causeAt 6 = .ok (.getfield 63, 3) := by decide +kernel
theorem dX6_causeAt_9 : decode cX6_causeAt 9 = .ok (.ireturn, 1) := by decide +kernel
theorem dX6_causeAt_10 : decode cX6_causeAt 10 = .ok (.aload_n 0, 1) := by decide +kernel
theorem dX6_causeAt_11 : decode cX6_causeAt 11 = .ok (.getfield 59, 3) := by decide +kernel
theorem dX6_causeAt_14 : decode cX6_causeAt 14 = .ok (.ifnull 15, 3) := by decide +kernel
theorem dX6_causeAt_17 : decode cX6_causeAt 17 = .ok (.iload_n 1, 1) := by decide +kernel
theorem dX6_causeAt_18 : decode cX6_causeAt 18 = .ok (.ifCond .lt 11, 3) := by decide +kernel
theorem dX6_causeAt_21 : decode cX6_causeAt 21 = .ok (.iload_n 1, 1) := by decide +kernel
theorem dX6_causeAt_22 : decode cX6_causeAt 22 = .ok (.aload_n 0, 1) := by decide +kernel
theorem dX6_causeAt_23 : decode cX6_causeAt 23 = .ok (.getfield 63, 3) := by decide +kernel
theorem dX6_causeAt_26 : decode cX6_causeAt 26 = .ok (.if_icmp .lt 7, 3) := by decide +kernel
theorem dX6_causeAt_29 : decode cX6_causeAt 29 = .ok (.iconst (-1), 1) := by decide +kernel
theorem dX6_causeAt_30 : decode cX6_causeAt 30 = .ok (.goto 9, 3) := by decide +kernel
theorem dX6_causeAt_33 : decode cX6_causeAt 33 = .ok (.aload_n 0, 1) := by decide +kernel
theorem dX6_causeAt_34 : decode cX6_causeAt 34 = .ok (.getfield 59, 3) := by decide +kernel
theorem dX6_causeAt_37 : decode cX6_causeAt 37 = .ok (.iload_n 1, 1) := by decide +kernel
theorem dX6_causeAt_38 : decode cX6_causeAt 38 = .ok (.iaload, 1) := by decide +kernel
theorem dX6_causeAt_39 : decode cX6_causeAt 39 = .ok (.ireturn, 1) := by decide +kernel
theorem dX6_tell_0 : decode cX6_tell 0 = .ok (.iload_n 1, 1) := by decide +kernel
theorem dX6_tell_1 : decode cX6_tell 1 = .ok (.tableswitch 199 0 12 #[67, 75, 80, 85, 90, 109, 114, 119, 124, 141, 160, 177, 194], 67) := by decide +kernel
theorem dX6_tell_68 : decode cX6_tell 68 = .ok (.aload_n 0, 1) := by decide +kernel
theorem dX6_tell_69 : decode cX6_tell 69 = .ok (.getfield 24, 3) := by decide +kernel
theorem dX6_tell_72 : decode cX6_tell 72 = .ok (.getfield 66, 3) := by decide +kernel
theorem dX6_tell_75 : decode cX6_tell 75 = .ok (.ireturn, 1) := by decide +kernel
theorem dX6_tell_76 : decode cX6_tell 76 = .ok (.aload_n 0, 1) := by decide +kernel
theorem dX6_tell_77 : decode cX6_tell 77 = .ok (.getfield 32, 3) := by decide +kernel
theorem dX6_tell_80 : decode cX6_tell 80 = .ok (.ireturn, 1) := by decide +kernel
theorem dX6_tell_81 : decode cX6_tell 81 = .ok (.aload_n 0, 1) := by decide +kernel
theorem dX6_tell_82 : decode cX6_tell 82 = .ok (.getfield 35, 3) := by decide +kernel
theorem dX6_tell_85 : decode cX6_tell 85 = .ok (.ireturn, 1) := by decide +kernel
theorem dX6_tell_86 : decode cX6_tell 86 = .ok (.aload_n 0, 1) := by decide +kernel
theorem dX6_tell_87 : decode cX6_tell 87 = .ok (.getfield 69, 3) := by decide +kernel
theorem dX6_tell_90 : decode cX6_tell 90 = .ok (.ireturn, 1) := by decide +kernel
theorem dX6_tell_91 : decode cX6_tell 91 = .ok (.aload_n 0, 1) := by decide +kernel
theorem dX6_tell_92 : decode cX6_tell 92 = .ok (.getfield 28, 3) := by decide +kernel
theorem dX6_tell_95 : decode cX6_tell 95 = .ok (.ifnonnull 7, 3) := by decide +kernel
theorem dX6_tell_98 : decode cX6_tell 98 = .ok (.iconst (-1), 1) := by decide +kernel
theorem dX6_tell_99 : decode cX6_tell 99 = .ok (.goto 10, 3) := by decide +kernel
theorem dX6_tell_102 : decode cX6_tell 102 = .ok (.aload_n 0, 1) := by decide +kernel
theorem dX6_tell_103 : decode cX6_tell 103 = .ok (.getfield 28, 3) := by decide +kernel
theorem dX6_tell_106 : decode cX6_tell 106 = .ok (.getfield 21, 3) := by decide +kernel
theorem dX6_tell_109 : decode cX6_tell 109 = .ok (.ireturn, 1) := by decide +kernel
theorem dX6_tell_110 : decode cX6_tell 110 = .ok (.aload_n 0, 1) := by decide +kernel
theorem dX6_tell_111 : decode cX6_tell 111 = .ok (.getfield 38, 3) := by decide +kernel
theorem dX6_tell_114 : decode cX6_tell 114 = .ok (.ireturn, 1) := by decide +kernel
theorem dX6_tell_115 : decode cX6_tell 115 = .ok (.aload_n 0, 1) := by decide +kernel
theorem dX6_tell_116 : decode cX6_tell 116 = .ok (.getfield 9, 3) := by decide +kernel
theorem dX6_tell_119 : decode cX6_tell 119 = .ok (.ireturn, 1) := by decide +kernel
theorem dX6_tell_120 : decode cX6_tell 120 = .ok (.aload_n 0, 1) := by decide +kernel
theorem dX6_tell_121 : decode cX6_tell 121 = .ok (.getfield 72, 3) := by decide +kernel
theorem dX6_tell_124 : decode cX6_tell 124 = .ok (.ireturn, 1) := by decide +kernel
theorem dX6_tell_125 : decode cX6_tell 125 = .ok (.aload_n 0, 1) := by decide +kernel
theorem dX6_tell_126 : decode cX6_tell 126 = .ok (.getfield 9, 3) := by decide +kernel
theorem dX6_tell_129 : decode cX6_tell 129 = .ok (.iconst 2, 1) := by decide +kernel
theorem dX6_tell_130 : decode cX6_tell 130 = .ok (.if_icmp .ne 10, 3) := by decide +kernel
theorem dX6_tell_133 : decode cX6_tell 133 = .ok (.aload_n 0, 1) := by decide +kernel
theorem dX6_tell_134 : decode cX6_tell 134 = .ok (.getfield 41, 3) := by decide +kernel
theorem dX6_tell_137 : decode cX6_tell 137 = .ok (.goto 4, 3) := by decide +kernel
theorem dX6_tell_140 : decode cX6_tell 140 = .ok (.iconst (-1), 1) := by decide +kernel
theorem dX6_tell_141 : decode cX6_tell 141 = .ok (.ireturn, 1) := by decide +kernel
theorem dX6_tell_142 : decode cX6_tell 142 = .ok (.aload_n 0, 1) := by decide +kernel
theorem dX6_tell_143 : decode cX6_tell 143 = .ok (.getfield 47, 3) := by decide +kernel
theorem dX6_tell_146 : decode cX6_tell 146 = .ok (.ifnonnull 7, 3) := by decide +kernel
theorem dX6_tell_149 : decode cX6_tell 149 = .ok (.iconst (-1), 1) := by decide +kernel
theorem dX6_tell_150 : decode cX6_tell 150 = .ok (.goto 10, 3) := by decide +kernel
theorem dX6_tell_153 : decode cX6_tell 153 = .ok (.aload_n 0, 1) := by decide +kernel
theorem dX6_tell_154 : decode cX6_tell 154 = .ok (.getfield 47, 3) := by decide +kernel
theorem dX6_tell_157 : decode cX6_tell 157 = .ok (.getfield 75, 3) := by decide +kernel
theorem dX6_tell_160 : decode cX6_tell 160 = .ok (.ireturn, 1) := by decide +kernel
theorem dX6_tell_161 : decode cX6_tell 161 = .ok (.aload_n 0, 1) := by decide +kernel
theorem dX6_tell_162 : decode cX6_tell 162 = .ok (.getfield 9, 3) := by decide +kernel
theorem dX6_tell_165 : decode cX6_tell 165 = .ok (.iconst 3, 1) := by decide +kernel
theorem dX6_tell_166 : decode cX6_tell 166 = .ok (.if_icmp .ne 10, 3) := by decide +kernel
theorem dX6_tell_169 : decode cX6_tell 169 = .ok (.aload_n 0, 1) := by decide +kernel
theorem dX6_tell_170 : decode cX6_tell 170 = .ok (.getfield 51, 3) := by decide +kernel
theorem dX6_tell_173 : decode cX6_tell 173 = .ok (.goto 4, 3) := by decide +kernel
theorem dX6_tell_176 : decode cX6_tell 176 = .ok (.iconst (-1), 1) := by decide +kernel
theorem dX6_tell_177 : decode cX6_tell 177 = .ok (.ireturn, 1) := by decide +kernel
theorem dX6_tell_178 : decode cX6_tell 178 = .ok (.aload_n 0, 1) := by decide +kernel
theorem dX6_tell_179 : decode cX6_tell 179 = .ok (.getfield 9, 3) := by decide +kernel
theorem dX6_tell_182 : decode cX6_tell 182 = .ok (.iconst 3, 1) := by decide +kernel
theorem dX6_tell_183 : decode cX6_tell 183 = .ok (.if_icmp .ne 10, 3) := by decide +kernel
theorem dX6_tell_186 : decode cX6_tell 186 = .ok (.aload_n 0, 1) := by decide +kernel
theorem dX6_tell_187 : decode cX6_tell 187 = .ok (.getfield 44, 3) := by decide +kernel
theorem dX6_tell_190 : decode cX6_tell 190 = .ok (.goto 4, 3) := by decide +kernel
theorem dX6_tell_193 : decode cX6_tell 193 = .ok (.iconst (-1), 1) := by decide +kernel
theorem dX6_tell_194 : decode cX6_tell 194 = .ok (.ireturn, 1) := by decide +kernel
theorem dX6_tell_195 : decode cX6_tell 195 = .ok (.aload_n 0, 1) := by decide +kernel
theorem dX6_tell_196 : decode cX6_tell 196 = .ok (.getfield 15, 3) := by decide +kernel
theorem dX6_tell_199 : decode cX6_tell 199 = .ok (.ireturn, 1) := by decide +kernel
theorem dX6_tell_200 : decode cX6_tell 200 = .ok (.iconst (-1), 1) := by decide +kernel
theorem dX6_tell_201 : decode cX6_tell 201 = .ok (.ireturn, 1) := by decide +kernel
theorem dX7_init_0 : decode cX7_init 0 = .ok (.aload_n 0, 1) := by decide +kernel
theorem dX7_init_1 : decode cX7_init 1 = .ok (.invokespecial 3, 3) := by decide +kernel
theorem dX7_init_4 : decode cX7_init 4 = .ok (.aload_n 0, 1) := by decide +kernel
theorem dX7_init_5 : decode cX7_init 5 = .ok (.aload_n 1, 1) := by decide +kernel
theorem dX7_init_6 : decode cX7_init 6 = .ok (.putfield 9, 3) := by decide +kernel
theorem dX7_init_9 : decode cX7_init 9 = .ok (.aload_n 0, 1) := by decide +kernel
theorem dX7_init_10 : decode cX7_init 10 = .ok (.iload_n 2, 1) := by decide +kernel
theorem dX7_init_11 : decode cX7_init 11 = .ok (.putfield 15, 3) := by decide +kernel
theorem dX7_init_14 : decode cX7_init 14 = .ok (.aload_n 0, 1) := by decide +kernel
theorem dX7_init_15 : decode cX7_init 15 = .ok (.iload_n 3, 1) := by decide +kernel
theorem dX7_init_16 : decode cX7_init 16 = .ok (.putfield 19, 3) := by decide +kernel
theorem dX7_init_19 : decode cX7_init 19 = .ok (.aload_n 0, 1) := by decide +kernel
theorem dX7_init_20 : decode cX7_init 20 = .ok (.iload 4, 2) := by decide +kernel
theorem dX7_init_22 : decode cX7_init 22 = .ok (.putfield 22, 3) := by decide +kernel
theorem dX7_init_25 : decode cX7_init 25 = .ok (.aload_n 0, 1) := by decide +kernel
theorem dX7_init_26 : decode cX7_init 26 = .ok (.iload 5, 2) := by decide +kernel
theorem dX7_init_28 : decode cX7_init 28 = .ok (.putfield 25, 3) := by decide +kernel
theorem dX7_init_31 : decode cX7_init 31 = .ok (.aload_n 0, 1) := by decide +kernel
theorem dX7_init_32 : decode cX7_init 32 = .ok (.iload 6, 2) := by decide +kernel
theorem dX7_init_34 : decode cX7_init 34 = .ok (.putfield 28, 3) := by decide +kernel
theorem dX7_init_37 : decode cX7_init 37 = .ok (.return_, 1) := by decide +kernel
theorem dX7_ring_0 : decode cX7_ring 0 = .ok (.aload_n 0, 1) := by decide +kernel
theorem dX7_ring_1 : decode cX7_ring 1 = .ok (.dup, 1) := by decide +kernel
theorem dX7_ring_2 : decode cX7_ring 2 = .ok (.getfield 28, 3) := by decide +kernel
theorem dX7_ring_5 : decode cX7_ring 5 = .ok (.aload_n 0, 1) := by decide +kernel
theorem dX7_ring_6 : decode cX7_ring 6 = .ok (.getfield 25, 3) := by decide +kernel
theorem dX7_ring_9 : decode cX7_ring 9 = .ok (.iadd, 1) := by decide +kernel
theorem dX7_ring_10 : decode cX7_ring 10 = .ok (.putfield 28, 3) := by decide +kernel
theorem dX7_ring_13 : decode cX7_ring 13 = .ok (.iload_n 1, 1) := by decide +kernel
theorem dX7_ring_14 : decode cX7_ring 14 = .ok (.ifCond .eq 16, 3) := by decide +kernel
theorem dX7_ring_17 : decode cX7_ring 17 = .ok (.aload_n 0, 1) := by decide +kernel
theorem dX7_ring_18 : decode cX7_ring 18 = .ok (.dup, 1) := by decide +kernel
theorem dX7_ring_19 : decode cX7_ring 19 = .ok (.getfield 31, 3) := by decide +kernel
theorem dX7_ring_22 : decode cX7_ring 22 = .ok (.iconst 1, 1) := by decide +kernel
theorem dX7_ring_23 : decode cX7_ring 23 = .ok (.iadd, 1) := by decide +kernel
theorem dX7_ring_24 : decode cX7_ring 24 = .ok (.putfield 31, 3) := by decide +kernel
theorem dX7_ring_27 : decode cX7_ring 27 = .ok (.goto 13, 3) := by decide +kernel
theorem dX7_ring_30 : decode cX7_ring 30 = .ok (.aload_n 0, 1) := by decide +kernel
theorem dX7_ring_31 : decode cX7_ring 31 = .ok (.dup, 1) := by decide +kernel
theorem dX7_ring_32 : decode cX7_ring 32 = .ok (.getfield 34, 3) := by decide +kernel
theorem dX7_ring_35 : decode cX7_ring 35 = .ok (.iconst 1, 1) := by decide +kernel
theorem dX7_ring_36 : decode cX7_ring 36 = .ok (.iadd, 1) := by decide +kernel
theorem dX7_ring_37 : decode cX7_ring 37 = .ok (.putfield 34, 3) := by decide +kernel
theorem dX7_ring_40 : decode cX7_ring 40 = .ok (.return_, 1) := by decide +kernel
theorem dX7_tell_0 : decode cX7_tell 0 = .ok (.iload_n 1, 1) := by decide +kernel
theorem dX7_tell_1 : decode cX7_tell 1 = .ok (.tableswitch 90 0 7 #[47, 55, 60, 65, 70, 75, 80, 85], 47) := by decide +kernel
theorem dX7_tell_48 : decode cX7_tell 48 = .ok (.aload_n 0, 1) := by decide +kernel
theorem dX7_tell_49 : decode cX7_tell 49 = .ok (.getfield 9, 3) := by decide +kernel
theorem dX7_tell_52 : decode cX7_tell 52 = .ok (.getfield 37, 3) := by decide +kernel
theorem dX7_tell_55 : decode cX7_tell 55 = .ok (.ireturn, 1) := by decide +kernel
theorem dX7_tell_56 : decode cX7_tell 56 = .ok (.aload_n 0, 1) := by decide +kernel
theorem dX7_tell_57 : decode cX7_tell 57 = .ok (.getfield 15, 3) := by decide +kernel
theorem dX7_tell_60 : decode cX7_tell 60 = .ok (.ireturn, 1) := by decide +kernel
theorem dX7_tell_61 : decode cX7_tell 61 = .ok (.aload_n 0, 1) := by decide +kernel
theorem dX7_tell_62 : decode cX7_tell 62 = .ok (.getfield 19, 3) := by decide +kernel
theorem dX7_tell_65 : decode cX7_tell 65 = .ok (.ireturn, 1) := by decide +kernel
theorem dX7_tell_66 : decode cX7_tell 66 = .ok (.aload_n 0, 1) := by decide +kernel
theorem dX7_tell_67 : decode cX7_tell 67 = .ok (.getfield 22, 3) := by decide +kernel
theorem dX7_tell_70 : decode cX7_tell 70 = .ok (.ireturn, 1) := by decide +kernel
theorem dX7_tell_71 : decode cX7_tell 71 = .ok (.aload_n 0, 1) := by decide +kernel
theorem dX7_tell_72 : decode cX7_tell 72 = .ok (.getfield 25, 3) := by decide +kernel
theorem dX7_tell_75 : decode cX7_tell 75 = .ok (.ireturn, 1) := by decide +kernel
theorem dX7_tell_76 : decode cX7_tell 76 = .ok (.aload_n 0, 1) := by decide +kernel
theorem dX7_tell_77 : decode cX7_tell 77 = .ok (.getfield 31, 3) := by decide +kernel
theorem dX7_tell_80 : decode cX7_tell 80 = .ok (.ireturn, 1) := by decide +kernel
theorem dX7_tell_81 : decode cX7_tell 81 = .ok (.aload_n 0, 1) := by decide +kernel
theorem dX7_tell_82 : decode cX7_tell 82 = .ok (.getfield 34, 3) := by decide +kernel
