theorem dX10_completeTask_70 : decode cX10_completeTask 70 = .ok (.aload_n 0, 1) := by decide +kernel
theorem dX10_completeTask_71 : decode cX10_completeTask 71 = .ok (.aload 4, 2) := by decide +kernel
theorem dX10_completeTask_73 : decode cX10_completeTask 73 = .ok (.invokevirtual 122, 3) := by decide +kernel
theorem dX10_completeTask_76 : decode cX10_completeTask 76 = .ok (.iinc 3 1, 3) := by decide +kernel
theorem dX10_completeTask_79 : decode cX10_completeTask 79 = .ok (.goto (-33), 3) := by decide +kernel
theorem dX10_completeTask_82 : decode cX10_completeTask 82 = .ok (.return_, 1) := by decide +kernel
theorem dX10_failTask_0 : decode cX10_failTask 0 = .ok (.aload_n 1, 1) := by decide +kernel
theorem dX10_failTask_1 : decode cX10_failTask 1 = .ok (.invokevirtual 118, 3) := by decide +kernel
theorem dX10_failTask_4 : decode cX10_failTask 4 = .ok (.astore_n 3, 1) := by decide +kernel
theorem dX10_failTask_5 : decode cX10_failTask 5 = .ok (.aload_n 3, 1) := by decide +kernel
theorem dX10_failTask_6 : decode cX10_failTask 6 = .ok (.ifnull 13, 3) := by decide +kernel
theorem dX10_failTask_9 : decode cX10_failTask 9 = .ok (.aload_n 3, 1) := by decide +kernel
theorem dX10_failTask_10 : decode cX10_failTask 10 = .ok (.dup, 1) := by decide +kernel
theorem dX10_failTask_11 : decode cX10_failTask 11 = .ok (.getfield 449, 3) := by decide +kernel
theorem dX10_failTask_14 : decode cX10_failTask 14 = .ok (.iconst 1, 1) := by decide +kernel
theorem dX10_failTask_15 : decode cX10_failTask 15 = .ok (.iadd, 1) := by decide +kernel
theorem dX10_failTask_16 : decode cX10_failTask 16 = .ok (.putfield 449, 3) := by decide +kernel
theorem dX10_failTask_19 : decode cX10_failTask 19 = .ok (.aload_n 1, 1) := by decide +kernel
theorem dX10_failTask_20 : decode cX10_failTask 20 = .ok (.dup, 1) := by decide +kernel
theorem dX10_failTask_21 : decode cX10_failTask 21 = .ok (.getfield 216, 3) := by decide +kernel
theorem dX10_failTask_24 : decode cX10_failTask 24 = .ok (.iconst 1, 1) := by decide +kernel
theorem dX10_failTask_25 : decode cX10_failTask 25 = .ok (.iadd, 1) := by decide +kernel
theorem dX10_failTask_26 : decode cX10_failTask 26 = .ok (.putfield 216, 3) := by decide +kernel
theorem dX10_failTask_29 : decode cX10_failTask 29 = .ok (.aload_n 1, 1) := by decide +kernel
theorem dX10_failTask_30 : decode cX10_failTask 30 = .ok (.iload_n 2, 1) := by decide +kernel
theorem dX10_failTask_31 : decode cX10_failTask 31 = .ok (.invokevirtual 452, 3) := by decide +kernel
theorem dX10_failTask_34 : decode cX10_failTask 34 = .ok (.aload_n 0, 1) := by decide +kernel
theorem dX10_failTask_35 : decode cX10_failTask 35 = .ok (.iconst 3, 1) := by decide +kernel
theorem dX10_failTask_36 : decode cX10_failTask 36 = .ok (.aload_n 1, 1) := by decide +kernel
theorem dX10_failTask_37 : decode cX10_failTask 37 = .ok (.aload_n 3, 1) := by decide +kernel
theorem dX10_failTask_38 : decode cX10_failTask 38 = .ok (.iload_n 2, 1) := by decide +kernel
theorem dX10_failTask_39 : decode cX10_failTask 39 = .ok (.invokevirtual 181, 3) := by decide +kernel
theorem dX10_failTask_42 : decode cX10_failTask 42 = .ok (.aload_n 1, 1) := by decide +kernel
theorem dX10_failTask_43 : decode cX10_failTask 43 = .ok (.getfield 216, 3) := by decide +kernel
theorem dX10_failTask_46 : decode cX10_failTask 46 = .ok (.aload_n 0, 1) := by decide +kernel
theorem dX10_failTask_47 : decode cX10_failTask 47 = .ok (.getfield 10, 3) := by decide +kernel
theorem dX10_failTask_50 : decode cX10_failTask 50 = .ok (.getfield 111, 3) := by decide +kernel
theorem dX10_failTask_53 : decode cX10_failTask 53 = .ok (.iconst 3, 1) := by decide +kernel
theorem dX10_failTask_54 : decode cX10_failTask 54 = .ok (.iaload, 1) := by decide +kernel
theorem dX10_failTask_55 : decode cX10_failTask 55 = .ok (.if_icmp .lt 38, 3) := by decide +kernel
theorem dX10_failTask_58 : decode cX10_failTask 58 = .ok (.aload_n 0, 1) := by decide +kernel
theorem dX10_failTask_59 : decode cX10_failTask 59 = .ok (.getfield 54, 3) := by decide +kernel
theorem dX10_failTask_62 : decode cX10_failTask 62 = .ok (.aload_n 1, 1) := by decide +kernel
theorem dX10_failTask_63 : decode cX10_failTask 63 = .ok (.getfield 415, 3) := by decide +kernel
theorem dX10_failTask_66 : decode cX10_failTask 66 = .ok (.invokevirtual 455, 3) := by decide +kernel
theorem dX10_failTask_69 : decode cX10_failTask 69 = .ok (.aload_n 0, 1) := by decide +kernel
theorem dX10_failTask_70 : decode cX10_failTask 70 = .ok (.getfield 35, 3) := by decide +kernel
theorem dX10_failTask_73 : decode cX10_failTask 73 = .ok (.invokevirtual 458, 3) := by decide +kernel
theorem dX10_failTask_76 : decode cX10_failTask 76 = .ok (.aload_n 0, 1) := by decide +kernel
theorem dX10_failTask_77 : decode cX10_failTask 77 = .ok (.getfield 35, 3) := by decide +kernel
theorem dX10_failTask_80 : decode cX10_failTask 80 = .ok (.aload_n 1, 1) := by decide +kernel
theorem dX10_failTask_81 : decode cX10_failTask 81 = .ok (.invokevirtual 419, 3) := by decide +kernel
theorem dX10_failTask_84 : decode cX10_failTask 84 = .ok (.aload_n 0, 1) := by decide +kernel
theorem dX10_failTask_85 : decode cX10_failTask 85 = .ok (.iload_n 2, 1) := by decide +kernel
theorem dX10_failTask_86 : decode cX10_failTask 86 = .ok (.invokevirtual 188, 3) := by decide +kernel
theorem dX10_failTask_89 : decode cX10_failTask 89 = .ok (.pop, 1) := by decide +kernel
theorem dX10_failTask_90 : decode cX10_failTask 90 = .ok (.goto 29, 3) := by decide +kernel
theorem dX10_failTask_93 : decode cX10_failTask 93 = .ok (.aload_n 1, 1) := by decide +kernel
theorem dX10_failTask_94 : decode cX10_failTask 94 = .ok (.aload_n 0, 1) := by decide +kernel
theorem dX10_failTask_95 : decode cX10_failTask 95 = .ok (.getfield 108, 3) := by decide +kernel
theorem dX10_failTask_98 : decode cX10_failTask 98 = .ok (.aload_n 0, 1) := by decide +kernel
theorem dX10_failTask_99 : decode cX10_failTask 99 = .ok (.aload_n 1, 1) := by decide +kernel
theorem dX10_failTask_100 : decode cX10_failTask 100 = .ok (.getfield 216, 3) := by decide +kernel
theorem dX10_failTask_103 : decode cX10_failTask 103 = .ok (.invokevirtual 461, 3) := by decide +kernel
theorem dX10_failTask_106 : decode cX10_failTask 106 = .ok (.iadd, 1) := by decide +kernel
theorem dX10_failTask_107 : decode cX10_failTask 107 = .ok (.putfield 464, 3) := by decide +kernel
theorem dX10_failTask_110 : decode cX10_failTask 110 = .ok (.aload_n 0, 1) := by decide +kernel
theorem dX10_failTask_111 : decode cX10_failTask 111 = .ok (.getfield 10, 3) := by decide +kernel
theorem dX10_failTask_114 : decode cX10_failTask 114 = .ok (.aload_n 1, 1) := by decide +kernel
theorem dX10_failTask_115 : decode cX10_failTask 115 = .ok (.iconst 2, 1) := by decide +kernel
theorem dX10_failTask_116 : decode cX10_failTask 116 = .ok (.invokevirtual 178, 3) := by decide +kernel
theorem dX10_failTask_119 : decode cX10_failTask 119 = .ok (.return_, 1) := by decide +kernel
theorem dX10_setAside_0 : decode cX10_setAside 0 = .ok (.iload_n 1, 1) := by decide +kernel
theorem dX10_setAside_1 : decode cX10_setAside 1 = .ok (.istore_n 2, 1) := by decide +kernel
theorem dX10_setAside_2 : decode cX10_setAside 2 = .ok (.iconst 0, 1) := by decide +kernel
theorem dX10_setAside_3 : decode cX10_setAside 3 = .ok (.istore_n 3, 1) := by decide +kernel
theorem dX10_setAside_4 : decode cX10_setAside 4 = .ok (.iconst 0, 1) := by decide +kernel
theorem dX10_setAside_5 : decode cX10_setAside 5 = .ok (.istore 4, 2) := by decide +kernel
theorem dX10_setAside_7 : decode cX10_setAside 7 = .ok (.iload 4, 2) := by decide +kernel
theorem dX10_setAside_9 : decode cX10_setAside 9 = .ok (.bipush 48, 2) := by decide +kernel
theorem dX10_setAside_11 : decode cX10_setAside 11 = .ok (.if_icmp .gt 109, 3) := by decide +kernel
theorem dX10_setAside_14 : decode cX10_setAside 14 = .ok (.aload_n 0, 1) := by decide +kernel
theorem dX10_setAside_15 : decode cX10_setAside 15 = .ok (.getfield 35, 3) := by decide +kernel
theorem dX10_setAside_18 : decode cX10_setAside 18 = .ok (.getfield 222, 3) := by decide +kernel
theorem dX10_setAside_21 : decode cX10_setAside 21 = .ok (.ifCond .le 99, 3) := by decide +kernel
theorem dX10_setAside_24 : decode cX10_setAside 24 = .ok (.iconst 0, 1) := by decide +kernel
theorem dX10_setAside_25 : decode cX10_setAside 25 = .ok (.istore 5, 2) := by decide +kernel
theorem dX10_setAside_27 : decode cX10_setAside 27 = .ok (.iload 5, 2) := by decide +kernel
theorem dX10_setAside_29 : decode cX10_setAside 29 = .ok (.aload_n 0, 1) := by decide +kernel
theorem dX10_setAside_30 : decode cX10_setAside 30 = .ok (.getfield 35, 3) := by decide +kernel
theorem dX10_setAside_33 : decode cX10_setAside 33 = .ok (.getfield 222, 3) := by decide +kernel
theorem dX10_setAside_36 : decode cX10_setAside 36 = .ok (.if_icmp .ge 61, 3) := by decide +kernel
theorem dX10_setAside_39 : decode cX10_setAside 39 = .ok (.aload_n 0, 1) := by decide +kernel
theorem dX10_setAside_40 : decode cX10_setAside 40 = .ok (.getfield 35, 3) := by decide +kernel
theorem dX10_setAside_43 : decode cX10_setAside 43 = .ok (.getfield 380, 3) := by decide +kernel
theorem dX10_setAside_46 : decode cX10_setAside 46 = .ok (.iload 5, 2) := by decide +kernel
theorem dX10_setAside_48 : decode cX10_setAside 48 = .ok (.aaload, 1) := by decide +kernel
theorem dX10_setAside_49 : decode cX10_setAside 49 = .ok (.astore 6, 2) := by decide +kernel
theorem dX10_setAside_51 : decode cX10_setAside 51 = .ok (.aload_n 0, 1) := by decide +kernel
theorem dX10_setAside_52 : decode cX10_setAside 52 = .ok (.getfield 10, 3) := by decide +kernel
theorem dX10_setAside_55 : decode cX10_setAside 55 = .ok (.aload 6, 2) := by decide +kernel
theorem dX10_setAside_57 : decode cX10_setAside 57 = .ok (.iconst 5, 1) := by decide +kernel
theorem dX10_setAside_58 : decode cX10_setAside 58 = .ok (.invokevirtual 178, 3) := by decide +kernel
theorem dX10_setAside_61 : decode cX10_setAside 61 = .ok (.iload_n 2, 1) := by decide +kernel
theorem dX10_setAside_62 : decode cX10_setAside 62 = .ok (.bipush 100, 2) := by decide +kernel
theorem dX10_setAside_64 : decode cX10_setAside 64 = .ok (.if_icmp .lt 9, 3) := by decide +kernel
theorem dX10_setAside_67 : decode cX10_setAside 67 = .ok (.aload 6, 2) := by decide +kernel
theorem dX10_setAside_69 : decode cX10_setAside 69 = .ok (.iload_n 2, 1) := by decide +kernel
theorem dX10_setAside_70 : decode cX10_setAside 70 = .ok (.invokevirtual 452, 3) := by decide +kernel
theorem dX10_setAside_73 : decode cX10_setAside 73 = .ok (.aload_n 0, 1) := by decide +kernel
theorem dX10_setAside_74 : decode cX10_setAside 74 = .ok (.getfield 32, 3) := by decide +kernel
theorem dX10_setAside_77 : decode cX10_setAside 77 = .ok (.aload 6, 2) := by decide +kernel
theorem dX10_setAside_79 : decode cX10_setAside 79 = .ok (.invokevirtual 419, 3) := by decide +kernel
theorem dX10_setAside_82 : decode cX10_setAside 82 = .ok (.aload_n 0, 1) := by decide +kernel
theorem dX10_setAside_83 : decode cX10_setAside 83 = .ok (.iconst 4, 1) := by decide +kernel
theorem dX10_setAside_84 : decode cX10_setAside 84 = .ok (.aload 6, 2) := by decide +kernel
theorem dX10_setAside_86 : decode cX10_setAside 86 = .ok (.aconst_null, 1) := by decide +kernel
theorem dX10_setAside_87 : decode cX10_setAside 87 = .ok (.iload_n 2, 1) := by decide +kernel
theorem dX10_setAside_88 : decode cX10_setAside 88 = .ok (.invokevirtual 181, 3) := by decide +kernel
theorem dX10_setAside_91 : decode cX10_setAside 91 = .ok (.iinc 5 1, 3) := by decide +kernel
theorem dX10_setAside_94 : decode cX10_setAside 94 = .ok (.goto (-67), 3) := by decide +kernel
theorem dX10_setAside_97 : decode cX10_setAside 97 = .ok (.iload_n 3, 1) := by decide +kernel
theorem dX10_setAside_98 : decode cX10_setAside 98 = .ok (.aload_n 0, 1) := by decide +kernel
theorem dX10_setAside_99 : decode cX10_setAside 99 = .ok (.getfield 35, 3) := by decide +kernel
theorem dX10_setAside_102 : decode cX10_setAside 102 = .ok (.getfield 222, 3) := by decide +kernel
theorem dX10_setAside_105 : decode cX10_setAside 105 = .ok (.iadd, 1) := by decide +kernel
theorem dX10_setAside_106 : decode cX10_setAside 106 = .ok (.istore_n 3, 1) := by decide +kernel
theorem dX10_setAside_107 : decode cX10_setAside 107 = .ok (.bipush 100, 2) := by decide +kernel
theorem dX10_setAside_109 : decode cX10_setAside 109 = .ok (.istore_n 2, 1) := by decide +kernel
theorem dX10_setAside_110 : decode cX10_setAside 110 = .ok (.aload_n 0, 1) := by decide +kernel
theorem dX10_setAside_111 : decode cX10_setAside 111 = .ok (.invokevirtual 185, 3) := by decide +kernel
theorem dX10_setAside_114 : decode cX10_setAside 114 = .ok (.iinc 4 1, 3) := by decide +kernel
theorem dX10_setAside_117 : decode cX10_setAside 117 = .ok (.goto (-110), 3) := by decide +kernel
theorem dX10_setAside_120 : decode cX10_setAside 120 = .ok (.iload_n 3, 1) := by decide +kernel
theorem dX10_setAside_121 : decode cX10_setAside 121 = .ok (.ireturn, 1) := by decide +kernel
theorem dX10_gatherFalling_0 : decode cX10_gatherFalling 0 = .ok (.aload_n 0, 1) := by decide +kernel
theorem dX10_gatherFalling_1 : decode cX10_gatherFalling 1 = .ok (.getfield 35, 3) := by decide +kernel
theorem dX10_gatherFalling_4 : decode cX10_gatherFalling 4 = .ok (.invokevirtual 458, 3) := by decide +kernel
theorem dX10_gatherFalling_7 : decode cX10_gatherFalling 7 = .ok (.iconst 0, 1) := by decide +kernel
theorem dX10_gatherFalling_8 : decode cX10_gatherFalling 8 = .ok (.istore_n 1, 1) := by decide +kernel
theorem dX10_gatherFalling_9 : decode cX10_gatherFalling 9 = .ok (.iload_n 1, 1) := by decide +kernel
theorem dX10_gatherFalling_10 : decode cX10_gatherFalling 10 = .ok (.aload_n 0, 1) := by decide +kernel
theorem dX10_gatherFalling_11 : decode cX10_gatherFalling 11 = .ok (.getfield 10, 3) := by decide +kernel
theorem dX10_gatherFalling_14 : decode cX10_gatherFalling 14 = .ok (.getfield 254, 3) := by decide +kernel
theorem dX10_gatherFalling_17 : decode cX10_gatherFalling 17 = .ok (.getfield 222, 3) := by decide +kernel
theorem dX10_gatherFalling_20 : decode cX10_gatherFalling 20 = .ok (.if_icmp .ge 45, 3) := by decide +kernel
theorem dX10_gatherFalling_23 : decode cX10_gatherFalling 23 = .ok (.aload_n 0, 1) := by decide +kernel
theorem dX10_gatherFalling_24 : decode cX10_gatherFalling 24 = .ok (.getfield 10, 3) := by decide +kernel
theorem dX10_gatherFalling_27 : decode cX10_gatherFalling 27 = .ok (.getfield 254, 3) := by decide +kernel
theorem dX10_gatherFalling_30 : decode cX10_gatherFalling 30 = .ok (.getfield 380, 3) := by decide +kernel
theorem dX10_gatherFalling_33 : decode cX10_gatherFalling 33 = .ok (.iload_n 1, 1) := by decide +kernel
theorem dX10_gatherFalling_34 : decode cX10_gatherFalling 34 = .ok (.aaload, 1) := by decide +kernel
theorem dX10_gatherFalling_35 : decode cX10_gatherFalling 35 = .ok (.astore_n 2, 1) := by decide +kernel
theorem dX10_gatherFalling_36 : decode cX10_gatherFalling 36 = .ok (.aload_n 2, 1) := by decide +kernel
theorem dX10_gatherFalling_37 : decode cX10_gatherFalling 37 = .ok (.getfield 105, 3) := by decide +kernel
theorem dX10_gatherFalling_40 : decode cX10_gatherFalling 40 = .ok (.iconst 1, 1) := by decide +kernel
theorem dX10_gatherFalling_41 : decode cX10_gatherFalling 41 = .ok (.if_icmp .ne 18, 3) := by decide +kernel
theorem dX10_gatherFalling_44 : decode cX10_gatherFalling 44 = .ok (.aload_n 2, 1) := by decide +kernel
theorem dX10_gatherFalling_45 : decode cX10_gatherFalling 45 = .ok (.invokevirtual 426, 3) := by decide +kernel
theorem dX10_gatherFalling_48 : decode cX10_gatherFalling 48 = .ok (.ifCond .eq 11, 3) := by decide +kernel
theorem dX10_gatherFalling_51 : decode cX10_gatherFalling 51 = .ok (.aload_n 0, 1) := by decide +kernel
theorem dX10_gatherFalling_52 : decode cX10_gatherFalling 52 = .ok (.getfield 35, 3) := by decide +kernel
theorem dX10_gatherFalling_55 : decode cX10_gatherFalling 55 = .ok (.aload_n 2, 1) := by decide +kernel
theorem dX10_gatherFalling_56 : decode cX10_gatherFalling 56 = .ok (.invokevirtual 419, 3) := by decide +kernel
theorem dX10_gatherFalling_59 : decode cX10_gatherFalling 59 = .ok (.iinc 1 1, 3) := by decide +kernel
theorem dX10_gatherFalling_62 : decode cX10_gatherFalling 62 = .ok (.goto (-53), 3) := by decide +kernel
theorem dX10_gatherFalling_65 : decode cX10_gatherFalling 65 = .ok (.return_, 1) := by decide +kernel
theorem dX10_waitAgain_0 : decode cX10_waitAgain 0 = .ok (.aload_n 0, 1) := by decide +kernel
theorem dX10_waitAgain_1 : decode cX10_waitAgain 1 = .ok (.getfield 10, 3) := by decide +kernel
theorem dX10_waitAgain_4 : decode cX10_waitAgain 4 = .ok (.aload_n 1, 1) := by decide +kernel
theorem dX10_waitAgain_5 : decode cX10_waitAgain 5 = .ok (.invokevirtual 467, 3) := by decide +kernel
theorem dX10_waitAgain_8 : decode cX10_waitAgain 8 = .ok (.aload_n 0, 1) := by decide +kernel
theorem dX10_waitAgain_9 : decode cX10_waitAgain 9 = .ok (.iconst 5, 1) := by decide +kernel
theorem dX10_waitAgain_10 : decode cX10_waitAgain 10 = .ok (.aload_n 1, 1) := by decide +kernel
theorem dX10_waitAgain_11 : decode cX10_waitAgain 11 = .ok (.aconst_null, 1) := by decide +kernel
theorem dX10_waitAgain_12 : decode cX10_waitAgain 12 = .ok (.iconst 0, 1) := by decide +kernel
theorem dX10_waitAgain_13 : decode cX10_waitAgain 13 = .ok (.invokevirtual 181, 3) := by decide +kernel
theorem dX10_waitAgain_16 : decode cX10_waitAgain 16 = .ok (.return_, 1) := by decide +kernel
theorem dX10_raiseIfCan_0 : decode cX10_raiseIfCan 0 = .ok (.aload_n 0, 1) := by decide +kernel
theorem dX10_raiseIfCan_1 : decode cX10_raiseIfCan 1 = .ok (.iload_n 1, 1) := by decide +kernel
theorem dX10_raiseIfCan_2 : decode cX10_raiseIfCan 2 = .ok (.invokevirtual 171, 3) := by decide +kernel
theorem dX10_raiseIfCan_5 : decode cX10_raiseIfCan 5 = .ok (.astore_n 3, 1) := by decide +kernel
theorem dX10_raiseIfCan_6 : decode cX10_raiseIfCan 6 = .ok (.aload_n 3, 1) := by decide +kernel
theorem dX10_raiseIfCan_7 : decode cX10_raiseIfCan 7 = .ok (.ifnull 13, 3) := by decide +kernel
theorem dX10_raiseIfCan_10 : decode cX10_raiseIfCan 10 = .ok (.iload_n 2, 1) := by decide +kernel
theorem dX10_raiseIfCan_11 : decode cX10_raiseIfCan 11 = .ok (.ifCond .lt 9, 3) := by decide +kernel
theorem dX10_raiseIfCan_14 : decode cX10_raiseIfCan 14 = .ok (.iload_n 2, 1) := by decide +kernel
theorem dX10_raiseIfCan_15 : decode cX10_raiseIfCan 15 = .ok (.bipush 9, 2) := by decide +kernel
theorem dX10_raiseIfCan_17 : decode cX10_raiseIfCan 17 = .ok (.if_icmp .le 6, 3) := by decide +kernel
theorem dX10_raiseIfCan_20 : decode cX10_raiseIfCan 20 = .ok (.bipush (-2), 2) := by decide +kernel
theorem dX10_raiseIfCan_22 : decode cX10_raiseIfCan 22 = .ok (.ireturn, 1) := by decide +kernel
theorem dX10_raiseIfCan_23 : decode cX10_raiseIfCan 23 = .ok (.aload_n 3, 1) := by decide +kernel
theorem dX10_raiseIfCan_24 : decode cX10_raiseIfCan 24 = .ok (.invokevirtual 174, 3) := by decide +kernel
theorem dX10_raiseIfCan_27 : decode cX10_raiseIfCan 27 = .ok (.ifCond .eq 11, 3) := by decide +kernel
theorem dX10_raiseIfCan_30 : decode cX10_raiseIfCan 30 = .ok (.aload_n 3, 1) := by decide +kernel
theorem dX10_raiseIfCan_31 : decode cX10_raiseIfCan 31 = .ok (.getfield 412, 3) := by decide +kernel
theorem dX10_raiseIfCan_34 : decode cX10_raiseIfCan 34 = .ok (.iload_n 2, 1) := by decide +kernel
theorem dX10_raiseIfCan_35 : decode cX10_raiseIfCan 35 = .ok (.if_icmp .ne 6, 3) := by decide +kernel
theorem dX10_raiseIfCan_38 : decode cX10_raiseIfCan 38 = .ok (.bipush (-3), 2) := by decide +kernel
theorem dX10_raiseIfCan_40 : decode cX10_raiseIfCan 40 = .ok (.ireturn, 1) := by decide +kernel
theorem dX10_raiseIfCan_41 : decode cX10_raiseIfCan 41 = .ok (.aload_n 3, 1) := by decide +kernel
theorem dX10_raiseIfCan_42 : decode cX10_raiseIfCan 42 = .ok (.iload_n 2, 1) := by decide +kernel
theorem dX10_raiseIfCan_43 : decode cX10_raiseIfCan 43 = .ok (.putfield 412, 3) := by decide +kernel
theorem dX10_raiseIfCan_46 : decode cX10_raiseIfCan 46 = .ok (.iconst 0, 1) := by decide +kernel
theorem dX10_raiseIfCan_47 : decode cX10_raiseIfCan 47 = .ok (.ireturn, 1) := by decide +kernel
theorem dX10_oneTick_0 : decode cX10_oneTick 0 = .ok (.aload_n 0, 1) := by decide +kernel
theorem dX10_oneTick_1 : decode cX10_oneTick 1 = .ok (.dup, 1) := by decide +kernel
theorem dX10_oneTick_2 : decode cX10_oneTick 2 = .ok (.getfield 108, 3) := by decide +kernel
theorem dX10_oneTick_5 : decode cX10_oneTick 5 = .ok (.iconst 1, 1) := by decide +kernel
theorem dX10_oneTick_6 : decode cX10_oneTick 6 = .ok (.iadd, 1) := by decide +kernel
theorem dX10_oneTick_7 : decode cX10_oneTick 7 = .ok (.putfield 108, 3) := by decide +kernel
theorem dX10_oneTick_10 : decode cX10_oneTick 10 = .ok (.iconst 0, 1) := by decide +kernel
theorem dX10_oneTick_11 : decode cX10_oneTick 11 = .ok (.istore_n 1, 1) := by decide +kernel
theorem dX10_oneTick_12 : decode cX10_oneTick 12 = .ok (.iload_n 1, 1) := by decide +kernel
theorem dX10_oneTick_13 : decode cX10_oneTick 13 = .ok (.bipush 48, 2) := by decide +kernel
theorem dX10_oneTick_15 : decode cX10_oneTick 15 = .ok (.if_icmp .ge 34, 3) := by decide +kernel
theorem dX10_oneTick_18 : decode cX10_oneTick 18 = .ok (.aload_n 0, 1) := by decide +kernel
theorem dX10_oneTick_19 : decode cX10_oneTick 19 = .ok (.getfield 10, 3) := by decide +kernel
theorem dX10_oneTick_22 : decode cX10_oneTick 22 = .ok (.aload_n 0, 1) := by decide +kernel
theorem dX10_oneTick_23 : decode cX10_oneTick 23 = .ok (.getfield 108, 3) := by decide +kernel
theorem dX10_oneTick_26 : decode cX10_oneTick 26 = .ok (.invokevirtual 470, 3) := by decide +kernel
theorem dX10_oneTick_29 : decode cX10_oneTick 29 = .ok (.astore_n 2, 1) := by decide +kernel
theorem dX10_oneTick_30 : decode cX10_oneTick 30 = .ok (.aload_n 2, 1) := by decide +kernel
theorem dX10_oneTick_31 : decode cX10_oneTick 31 = .ok (.ifnonnull 6, 3) := by decide +kernel
theorem dX10_oneTick_34 : decode cX10_oneTick 34 = .ok (.goto 15, 3) := by decide +kernel
theorem dX10_oneTick_37 : decode cX10_oneTick 37 = .ok (.aload_n 0, 1) := by decide +kernel
theorem dX10_oneTick_38 : decode cX10_oneTick 38 = .ok (.aload_n 2, 1) := by decide +kernel
theorem dX10_oneTick_39 : decode cX10_oneTick 39 = .ok (.iconst 0, 1) := by decide +kernel
theorem dX10_oneTick_40 : decode cX10_oneTick 40 = .ok (.invokevirtual 101, 3) := by decide +kernel
theorem dX10_oneTick_43 : decode cX10_oneTick 43 = .ok (.iinc 1 1, 3) := by decide +kernel
theorem dX10_oneTick_46 : decode cX10_oneTick 46 = .ok (.goto (-34), 3) := by decide +kernel
theorem dX10_oneTick_49 : decode cX10_oneTick 49 = .ok (.iconst 0, 1) := by decide +kernel
theorem dX10_oneTick_50 : decode cX10_oneTick 50 = .ok (.istore_n 1, 1) := by decide +kernel
theorem dX10_oneTick_51 : decode cX10_oneTick 51 = .ok (.iload_n 1, 1) := by decide +kernel
theorem dX10_oneTick_52 : decode cX10_oneTick 52 = .ok (.bipush 48, 2) := by decide +kernel
theorem dX10_oneTick_54 : decode cX10_oneTick 54 = .ok (.if_icmp .ge 33, 3) := by decide +kernel
theorem dX10_oneTick_57 : decode cX10_oneTick 57 = .ok (.aload_n 0, 1) := by decide +kernel
theorem dX10_oneTick_58 : decode cX10_oneTick 58 = .ok (.getfield 10, 3) := by decide +kernel
theorem dX10_oneTick_61 : decode cX10_oneTick 61 = .ok (.aload_n 0, 1) := by decide +kernel
theorem dX10_oneTick_62 : decode cX10_oneTick 62 = .ok (.getfield 108, 3) := by decide +kernel
theorem dX10_oneTick_65 : decode cX10_oneTick 65 = .ok (.invokevirtual 473, 3) := by decide +kernel
theorem dX10_oneTick_68 : decode cX10_oneTick 68 = .ok (.astore_n 2, 1) := by decide +kernel
theorem dX10_oneTick_69 : decode cX10_oneTick 69 = .ok (.aload_n 2, 1) := by decide +kernel
theorem dX10_oneTick_70 : decode cX10_oneTick 70 = .ok (.ifnonnull 6, 3) := by decide +kernel
theorem dX10_oneTick_73 : decode cX10_oneTick 73 = .ok (.goto 14, 3) := by decide +kernel
theorem dX10_oneTick_76 : decode cX10_oneTick 76 = .ok (.aload_n 0, 1) := by decide +kernel
theorem dX10_oneTick_77 : decode cX10_oneTick 77 = .ok (.aload_n 2, 1) := by decide +kernel
theorem dX10_oneTick_78 : decode cX10_oneTick 78 = .ok (.invokevirtual 122, 3) := by decide +kernel
theorem dX10_oneTick_81 : decode cX10_oneTick 81 = .ok (.iinc 1 1, 3) := by decide +kernel
theorem dX10_oneTick_84 : decode cX10_oneTick 84 = .ok (.goto (-33), 3) := by decide +kernel
theorem dX10_oneTick_87 : decode cX10_oneTick 87 = .ok (.iconst 0, 1) := by decide +kernel
theorem dX10_oneTick_88 : decode cX10_oneTick 88 = .ok (.istore_n 1, 1) := by decide +kernel
theorem dX10_oneTick_89 : decode cX10_oneTick 89 = .ok (.iload_n 1, 1) := by decide +kernel
theorem dX10_oneTick_90 : decode cX10_oneTick 90 = .ok (.aload_n 0, 1) := by decide +kernel
theorem dX10_oneTick_91 : decode cX10_oneTick 91 = .ok (.getfield 141, 3) := by decide +kernel
theorem dX10_oneTick_94 : decode cX10_oneTick 94 = .ok (.if_icmp .ge 63, 3) := by decide +kernel
theorem dX10_oneTick_97 : decode cX10_oneTick 97 = .ok (.aload_n 0, 1) := by decide +kernel
theorem dX10_oneTick_98 : decode cX10_oneTick 98 = .ok (.getfield 47, 3) := by decide +kernel
theorem dX10_oneTick_101 : decode cX10_oneTick 101 = .ok (.iload_n 1, 1) := by decide +kernel
theorem dX10_oneTick_102 : decode cX10_oneTick 102 = .ok (.aaload, 1) := by decide +kernel
theorem dX10_oneTick_103 : decode cX10_oneTick 103 = .ok (.astore_n 2, 1) := by decide +kernel
theorem dX10_oneTick_104 : decode cX10_oneTick 104 = .ok (.aload_n 2, 1) := by decide +kernel
theorem dX10_oneTick_105 : decode cX10_oneTick 105 = .ok (.getfield 151, 3) := by decide +kernel
theorem dX10_oneTick_108 : decode cX10_oneTick 108 = .ok (.aload_n 0, 1) := by decide +kernel
theorem dX10_oneTick_109 : decode cX10_oneTick 109 = .ok (.getfield 108, 3) := by decide +kernel
theorem dX10_oneTick_112 : decode cX10_oneTick 112 = .ok (.if_icmp .ne 39, 3) := by decide +kernel
theorem dX10_oneTick_115 : decode cX10_oneTick 115 = .ok (.aload_n 2, 1) := by decide +kernel
theorem dX10_oneTick_116 : decode cX10_oneTick 116 = .ok (.aload_n 0, 1) := by decide +kernel
theorem dX10_oneTick_117 : decode cX10_oneTick 117 = .ok (.aload_n 2, 1) := by decide +kernel
theorem dX10_oneTick_118 : decode cX10_oneTick 118 = .ok (.getfield 476, 3) := by decide +kernel
theorem dX10_oneTick_121 : decode cX10_oneTick 121 = .ok (.getfield 345, 3) := by decide +kernel
theorem dX10_oneTick_124 : decode cX10_oneTick 124 = .ok (.aload_n 2, 1) := by decide +kernel
theorem dX10_oneTick_125 : decode cX10_oneTick 125 = .ok (.getfield 477, 3) := by decide +kernel
theorem dX10_oneTick_128 : decode cX10_oneTick 128 = .ok (.aload_n 2, 1) := by decide +kernel
theorem dX10_oneTick_129 : decode cX10_oneTick 129 = .ok (.getfield 478, 3) := by decide +kernel
theorem dX10_oneTick_132 : decode cX10_oneTick 132 = .ok (.aload_n 2, 1) := by decide +kernel
theorem dX10_oneTick_133 : decode cX10_oneTick 133 = .ok (.getfield 479, 3) := by decide +kernel
theorem dX10_oneTick_136 : decode cX10_oneTick 136 = .ok (.iconst (-1), 1) := by decide +kernel
theorem dX10_oneTick_137 : decode cX10_oneTick 137 = .ok (.invokevirtual 72, 3) := by decide +kernel
theorem dX10_oneTick_140 : decode cX10_oneTick 140 = .ok (.ifCond .lt 7, 3) := by decide +kernel
theorem dX10_oneTick_143 : decode cX10_oneTick 143 = .ok (.iconst 1, 1) := by decide +kernel
theorem dX10_oneTick_144 : decode cX10_oneTick 144 = .ok (.goto 4, 3) := by decide +kernel
theorem dX10_oneTick_147 : decode cX10_oneTick 147 = .ok (.iconst 0, 1) := by decide +kernel
theorem dX10_oneTick_148 : decode cX10_oneTick 148 = .ok (.invokevirtual 480, 3) := by decide +kernel
theorem dX10_oneTick_151 : decode cX10_oneTick 151 = .ok (.iinc 1 1, 3) := by decide +kernel
theorem dX10_oneTick_154 : decode cX10_oneTick 154 = .ok (.goto (-65), 3) := by decide +kernel
theorem dX10_oneTick_157 : decode cX10_oneTick 157 = .ok (.return_, 1) := by decide +kernel
theorem dX10_oneStep_0 : decode cX10_oneStep 0 = .ok (.aload_n 0, 1) := by decide +kernel
theorem dX10_oneStep_1 : decode cX10_oneStep 1 = .ok (.getfield 68, 3) := by decide +kernel
theorem dX10_oneStep_4 : decode cX10_oneStep 4 = .ok (.bipush 10, 2) := by decide +kernel
theorem dX10_oneStep_6 : decode cX10_oneStep 6 = .ok (.invokevirtual 484, 3) := by decide +kernel
theorem dX10_oneStep_9 : decode cX10_oneStep 9 = .ok (.istore_n 1, 1) := by decide +kernel
theorem dX10_oneStep_10 : decode cX10_oneStep 10 = .ok (.iload_n 1, 1) := by decide +kernel
theorem dX10_oneStep_11 : decode cX10_oneStep 11 = .ok (.iconst 3, 1) := by decide +kernel
theorem dX10_oneStep_12 : decode cX10_oneStep 12 = .ok (.if_icmp .ge 67, 3) := by decide +kernel
theorem dX10_oneStep_15 : decode cX10_oneStep 15 = .ok (.aload_n 0, 1) := by decide +kernel
theorem dX10_oneStep_16 : decode cX10_oneStep 16 = .ok (.getfield 68, 3) := by decide +kernel
theorem dX10_oneStep_19 : decode cX10_oneStep 19 = .ok (.iconst 5, 1) := by decide +kernel
theorem dX10_oneStep_20 : decode cX10_oneStep 20 = .ok (.invokevirtual 484, 3) := by decide +kernel
theorem dX10_oneStep_23 : decode cX10_oneStep 23 = .ok (.istore_n 2, 1) := by decide +kernel
theorem dX10_oneStep_24 : decode cX10_oneStep 24 = .ok (.aload_n 0, 1) := by decide +kernel
theorem dX10_oneStep_25 : decode cX10_oneStep 25 = .ok (.getfield 68, 3) := by decide +kernel
theorem dX10_oneStep_28 : decode cX10_oneStep 28 = .ok (.bipush 10, 2) := by decide +kernel
theorem dX10_oneStep_30 : decode cX10_oneStep 30 = .ok (.invokevirtual 484, 3) := by decide +kernel
theorem dX10_oneStep_33 : decode cX10_oneStep 33 = .ok (.istore_n 3, 1) := by decide +kernel
theorem dX10_oneStep_34 : decode cX10_oneStep 34 = .ok (.aload_n 0, 1) := by decide +kernel
theorem dX10_oneStep_35 : decode cX10_oneStep 35 = .ok (.getfield 68, 3) := by decide +kernel
theorem dX10_oneStep_38 : decode cX10_oneStep 38 = .ok (.bipush 20, 2) := by decide +kernel
theorem dX10_oneStep_40 : decode cX10_oneStep 40 = .ok (.invokevirtual 484, 3) := by decide +kernel
theorem dX10_oneStep_43 : decode cX10_oneStep 43 = .ok (.iconst 1, 1) := by decide +kernel
theorem dX10_oneStep_44 : decode cX10_oneStep 44 = .ok (.iadd, 1) := by decide +kernel
theorem dX10_oneStep_45 : decode cX10_oneStep 45 = .ok (.istore 4, 2) := by decide +kernel
theorem dX10_oneStep_47 : decode cX10_oneStep 47 = .ok (.aload_n 0, 1) := by decide +kernel
theorem dX10_oneStep_48 : decode cX10_oneStep 48 = .ok (.getfield 68, 3) := by decide +kernel
theorem dX10_oneStep_51 : decode cX10_oneStep 51 = .ok (.sipush 10000, 3) := by decide +kernel
theorem dX10_oneStep_54 : decode cX10_oneStep 54 = .ok (.invokevirtual 484, 3) := by decide +kernel
theorem dX10_oneStep_57 : decode cX10_oneStep 57 = .ok (.istore 5, 2) := by decide +kernel
theorem dX10_oneStep_59 : decode cX10_oneStep 59 = .ok (.aload_n 0, 1) := by decide +kernel
theorem dX10_oneStep_60 : decode cX10_oneStep 60 = .ok (.iload_n 2, 1) := by decide +kernel
theorem dX10_oneStep_61 : decode cX10_oneStep 61 = .ok (.iload_n 3, 1) := by decide +kernel
theorem dX10_oneStep_62 : decode cX10_oneStep 62 = .ok (.iload 4, 2) := by decide +kernel
theorem dX10_oneStep_64 : decode cX10_oneStep 64 = .ok (.iload 5, 2) := by decide +kernel
theorem dX10_oneStep_66 : decode cX10_oneStep 66 = .ok (.iconst (-1), 1) := by decide +kernel
theorem dX10_oneStep_67 : decode cX10_oneStep 67 = .ok (.invokevirtual 72, 3) := by decide +kernel
theorem dX10_oneStep_70 : decode cX10_oneStep 70 = .ok (.ifCond .lt 7, 3) := by decide +kernel
theorem dX10_oneStep_73 : decode cX10_oneStep 73 = .ok (.iconst 1, 1) := by decide +kernel
theorem dX10_oneStep_74 : decode cX10_oneStep 74 = .ok (.goto 4, 3) := by decide +kernel
theorem dX10_oneStep_77 : decode cX10_oneStep 77 = .ok (.iconst 0, 1) := by decide +kernel
theorem dX10_oneStep_78 : decode cX10_oneStep 78 = .ok (.ireturn, 1) := by decide +kernel
theorem dX10_oneStep_79 : decode cX10_oneStep 79 = .ok (.iload_n 1, 1) := by decide +kernel
theorem dX10_oneStep_80 : decode cX10_oneStep 80 = .ok (.iconst 5, 1) := by decide +kernel
theorem dX10_oneStep_81 : decode cX10_oneStep 81 = .ok (.if_icmp .ge 25, 3) := by decide +kernel
theorem dX10_oneStep_84 : decode cX10_oneStep 84 = .ok (.aload_n 0, 1) := by decide +kernel
theorem dX10_oneStep_85 : decode cX10_oneStep 85 = .ok (.aload_n 0, 1) := by decide +kernel
theorem dX10_oneStep_86 : decode cX10_oneStep 86 = .ok (.getfield 68, 3) := by decide +kernel
theorem dX10_oneStep_89 : decode cX10_oneStep 89 = .ok (.bipush 6, 2) := by decide +kernel
theorem dX10_oneStep_91 : decode cX10_oneStep 91 = .ok (.invokevirtual 484, 3) := by decide +kernel
theorem dX10_oneStep_94 : decode cX10_oneStep 94 = .ok (.invokevirtual 80, 3) := by decide +kernel
theorem dX10_oneStep_97 : decode cX10_oneStep 97 = .ok (.ifCond .lt 7, 3) := by decide +kernel
theorem dX10_oneStep_100 : decode cX10_oneStep 100 = .ok (.iconst 1, 1) := by decide +kernel
theorem dX10_oneStep_101 : decode cX10_oneStep 101 = .ok (.goto 4, 3) := by decide +kernel
theorem dX10_oneStep_104 : decode cX10_oneStep 104 = .ok (.iconst 0, 1) := by decide +kernel
theorem dX10_oneStep_105 : decode cX10_oneStep 105 = .ok (.ireturn, 1) := by decide +kernel
theorem dX10_oneStep_106 : decode cX10_oneStep 106 = .ok (.iload_n 1, 1) := by decide +kernel
theorem dX10_oneStep_107 : decode cX10_oneStep 107 = .ok (.bipush 8, 2) := by decide +kernel
theorem dX10_oneStep_109 : decode cX10_oneStep 109 = .ok (.if_icmp .ge 96, 3) := by decide +kernel
theorem dX10_oneStep_112 : decode cX10_oneStep 112 = .ok (.aload_n 0, 1) := by decide +kernel
theorem dX10_oneStep_113 : decode cX10_oneStep 113 = .ok (.aload_n 0, 1) := by decide +kernel
theorem dX10_oneStep_114 : decode cX10_oneStep 114 = .ok (.getfield 68, 3) := by decide +kernel
theorem dX10_oneStep_117 : decode cX10_oneStep 117 = .ok (.bipush 6, 2) := by decide +kernel
theorem dX10_oneStep_119 : decode cX10_oneStep 119 = .ok (.invokevirtual 484, 3) := by decide +kernel
theorem dX10_oneStep_122 : decode cX10_oneStep 122 = .ok (.invokevirtual 83, 3) := by decide +kernel
theorem dX10_oneStep_125 : decode cX10_oneStep 125 = .ok (.astore_n 2, 1) := by decide +kernel
theorem dX10_oneStep_126 : decode cX10_oneStep 126 = .ok (.iload_n 1, 1) := by decide +kernel
theorem dX10_oneStep_127 : decode cX10_oneStep 127 = .ok (.bipush 7, 2) := by decide +kernel
theorem dX10_oneStep_129 : decode cX10_oneStep 129 = .ok (.if_icmp .ge 7, 3) := by decide +kernel
theorem dX10_oneStep_132 : decode cX10_oneStep 132 = .ok (.iconst 0, 1) := by decide +kernel
theorem dX10_oneStep_133 : decode cX10_oneStep 133 = .ok (.goto 14, 3) := by decide +kernel
theorem dX10_oneStep_136 : decode cX10_oneStep 136 = .ok (.aload_n 0, 1) := by decide +kernel
theorem dX10_oneStep_137 : decode cX10_oneStep 137 = .ok (.getfield 68, 3) := by decide +kernel
theorem dX10_oneStep_140 : decode cX10_oneStep 140 = .ok (.bipush 99, 2) := by decide +kernel
theorem dX10_oneStep_142 : decode cX10_oneStep 142 = .ok (.invokevirtual 484, 3) := by decide +kernel
theorem dX10_oneStep_145 : decode cX10_oneStep 145 = .ok (.iconst 1, 1) := by decide +kernel
theorem dX10_oneStep_146 : decode cX10_oneStep 146 = .ok (.iadd, 1) := by decide +kernel
theorem dX10_oneStep_147 : decode cX10_oneStep 147 = .ok (.istore_n 3, 1) := by decide +kernel
theorem dX10_oneStep_148 : decode cX10_oneStep 148 = .ok (.aload_n 2, 1) := by decide +kernel
theorem dX10_oneStep_149 : decode cX10_oneStep 149 = .ok (.ifnonnull 7, 3) := by decide +kernel
theorem dX10_oneStep_152 : decode cX10_oneStep 152 = .ok (.aconst_null, 1) := by decide +kernel
theorem dX10_oneStep_153 : decode cX10_oneStep 153 = .ok (.goto 7, 3) := by decide +kernel
theorem dX10_oneStep_156 : decode cX10_oneStep 156 = .ok (.aload_n 2, 1) := by decide +kernel
theorem dX10_oneStep_157 : decode cX10_oneStep 157 = .ok (.getfield 125, 3) := by decide +kernel
theorem dX10_oneStep_160 : decode cX10_oneStep 160 = .ok (.astore 4, 2) := by decide +kernel
theorem dX10_oneStep_162 : decode cX10_oneStep 162 = .ok (.aload 4, 2) := by decide +kernel
theorem dX10_oneStep_164 : decode cX10_oneStep 164 = .ok (.ifnull 18, 3) := by decide +kernel
theorem dX10_oneStep_167 : decode cX10_oneStep 167 = .ok (.iload_n 1, 1) := by decide +kernel
theorem dX10_oneStep_168 : decode cX10_oneStep 168 = .ok (.bipush 7, 2) := by decide +kernel
theorem dX10_oneStep_170 : decode cX10_oneStep 170 = .ok (.if_icmp .ge 12, 3) := by decide +kernel
theorem dX10_oneStep_173 : decode cX10_oneStep 173 = .ok (.aload_n 0, 1) := by decide +kernel
theorem dX10_oneStep_174 : decode cX10_oneStep 174 = .ok (.aload 4, 2) := by decide +kernel
theorem dX10_oneStep_176 : decode cX10_oneStep 176 = .ok (.invokevirtual 91, 3) := by decide +kernel
theorem dX10_oneStep_179 : decode cX10_oneStep 179 = .ok (.goto 15, 3) := by decide +kernel
theorem dX10_oneStep_182 : decode cX10_oneStep 182 = .ok (.aload 4, 2) := by decide +kernel
theorem dX10_oneStep_184 : decode cX10_oneStep 184 = .ok (.ifnull 10, 3) := by decide +kernel
theorem dX10_oneStep_187 : decode cX10_oneStep 187 = .ok (.aload_n 0, 1) := by decide +kernel
theorem dX10_oneStep_188 : decode cX10_oneStep 188 = .ok (.aload 4, 2) := by decide +kernel
theorem dX10_oneStep_190 : decode cX10_oneStep 190 = .ok (.iload_n 3, 1) := by decide +kernel
theorem dX10_oneStep_191 : decode cX10_oneStep 191 = .ok (.invokevirtual 101, 3) := by decide +kernel
theorem dX10_oneStep_194 : decode cX10_oneStep 194 = .ok (.aload 4, 2) := by decide +kernel
theorem dX10_oneStep_196 : decode cX10_oneStep 196 = .ok (.ifnull 7, 3) := by decide +kernel
theorem dX10_oneStep_199 : decode cX10_oneStep 199 = .ok (.iconst 1, 1) := by decide +kernel
theorem dX10_oneStep_200 : decode cX10_oneStep 200 = .ok (.goto 4, 3) := by decide +kernel
theorem dX10_oneStep_203 : decode cX10_oneStep 203 = .ok (.iconst 0, 1) := by decide +kernel
theorem dX10_oneStep_204 : decode cX10_oneStep 204 = .ok (.ireturn, 1) := by decide +kernel
theorem dX10_oneStep_205 : decode cX10_oneStep 205 = .ok (.iload_n 1, 1) := by decide +kernel
theorem dX10_oneStep_206 : decode cX10_oneStep 206 = .ok (.bipush 8, 2) := by decide +kernel
theorem dX10_oneStep_208 : decode cX10_oneStep 208 = .ok (.if_icmp .ne 9, 3) := by decide +kernel
theorem dX10_oneStep_211 : decode cX10_oneStep 211 = .ok (.aload_n 0, 1) := by decide +kernel
theorem dX10_oneStep_212 : decode cX10_oneStep 212 = .ok (.invokevirtual 157, 3) := by decide +kernel
theorem dX10_oneStep_215 : decode cX10_oneStep 215 = .ok (.iconst 1, 1) := by decide +kernel
theorem dX10_oneStep_216 : decode cX10_oneStep 216 = .ok (.ireturn, 1) := by decide +kernel
theorem dX10_oneStep_217 : decode cX10_oneStep 217 = .ok (.aload_n 0, 1) := by decide +kernel
theorem dX10_oneStep_218 : decode cX10_oneStep 218 = .ok (.getfield 68, 3) := by decide +kernel
theorem dX10_oneStep_221 : decode cX10_oneStep 221 = .ok (.sipush 400, 3) := by decide +kernel
theorem dX10_oneStep_224 : decode cX10_oneStep 224 = .ok (.invokevirtual 484, 3) := by decide +kernel
theorem dX10_oneStep_227 : decode cX10_oneStep 227 = .ok (.istore_n 2, 1) := by decide +kernel
theorem dX10_oneStep_228 : decode cX10_oneStep 228 = .ok (.aload_n 0, 1) := by decide +kernel
theorem dX10_oneStep_229 : decode cX10_oneStep 229 = .ok (.getfield 68, 3) := by decide +kernel
theorem dX10_oneStep_232 : decode cX10_oneStep 232 = .ok (.bipush 10, 2) := by decide +kernel
theorem dX10_oneStep_234 : decode cX10_oneStep 234 = .ok (.invokevirtual 484, 3) := by decide +kernel
theorem dX10_oneStep_237 : decode cX10_oneStep 237 = .ok (.istore_n 3, 1) := by decide +kernel
theorem dX10_oneStep_238 : decode cX10_oneStep 238 = .ok (.aload_n 0, 1) := by decide +kernel
theorem dX10_oneStep_239 : decode cX10_oneStep 239 = .ok (.iload_n 2, 1) := by decide +kernel
theorem dX10_oneStep_240 : decode cX10_oneStep 240 = .ok (.iload_n 3, 1) := by decide +kernel
theorem dX10_oneStep_241 : decode cX10_oneStep 241 = .ok (.invokevirtual 202, 3) := by decide +kernel
theorem dX10_oneStep_244 : decode cX10_oneStep 244 = .ok (.ifCond .lt 7, 3) := by decide +kernel
theorem dX10_oneStep_247 : decode cX10_oneStep 247 = .ok (.iconst 1, 1) := by decide +kernel
theorem dX10_oneStep_248 : decode cX10_oneStep 248 = .ok (.goto 4, 3) := by decide +kernel
theorem dX10_oneStep_251 : decode cX10_oneStep 251 = .ok (.iconst 0, 1) := by decide +kernel
theorem dX10_oneStep_252 : decode cX10_oneStep 252 = .ok (.ireturn, 1) := by decide +kernel
theorem dX10_note_0 : decode cX10_note 0 = .ok (.aload_n 0, 1) := by decide +kernel
theorem dX10_note_1 : decode cX10_note 1 = .ok (.getfield 61, 3) := by decide +kernel
theorem dX10_note_4 : decode cX10_note 4 = .ok (.aload_n 0, 1) := by decide +kernel
theorem dX10_note_5 : decode cX10_note 5 = .ok (.getfield 108, 3) := by decide +kernel
theorem dX10_note_8 : decode cX10_note 8 = .ok (.iload_n 1, 1) := by decide +kernel
theorem dX10_note_9 : decode cX10_note 9 = .ok (.aload_n 2, 1) := by decide +kernel
theorem dX10_note_10 : decode cX10_note 10 = .ok (.aload_n 3, 1) := by decide +kernel
theorem dX10_note_11 : decode cX10_note 11 = .ok (.ifnonnull 7, 3) := by decide +kernel
theorem dX10_note_14 : decode cX10_note 14 = .ok (.iconst (-1), 1) := by decide +kernel
theorem dX10_note_15 : decode cX10_note 15 = .ok (.goto 7, 3) := by decide +kernel
theorem dX10_note_18 : decode cX10_note 18 = .ok (.aload_n 3, 1) := by decide +kernel
theorem dX10_note_19 : decode cX10_note 19 = .ok (.getfield 486, 3) := by decide +kernel
theorem dX10_note_22 : decode cX10_note 22 = .ok (.iload 4, 2) := by decide +kernel
theorem dX10_note_24 : decode cX10_note 24 = .ok (.invokevirtual 487, 3) := by decide +kernel
theorem dX10_note_27 : decode cX10_note 27 = .ok (.return_, 1) := by decide +kernel
theorem dX10_taskAt_0 : decode cX10_taskAt 0 = .ok (.aload_n 0, 1) := by decide +kernel
theorem dX10_taskAt_1 : decode cX10_taskAt 1 = .ok (.getfield 28, 3) := by decide +kernel
theorem dX10_taskAt_4 : decode cX10_taskAt 4 = .ok (.iload_n 1, 1) := by decide +kernel
theorem dX10_taskAt_5 : decode cX10_taskAt 5 = .ok (.invokevirtual 289, 3) := by decide +kernel
theorem dX10_taskAt_8 : decode cX10_taskAt 8 = .ok (.areturn, 1) := by decide +kernel
theorem dX10_workerAt_0 : decode cX10_workerAt 0 = .ok (.iload_n 1, 1) := by decide +kernel
theorem dX10_workerAt_1 : decode cX10_workerAt 1 = .ok (.ifCond .lt 9, 3) := by decide +kernel
theorem dX10_workerAt_4 : decode cX10_workerAt 4 = .ok (.iload_n 1, 1) := by decide +kernel
theorem dX10_workerAt_5 : decode cX10_workerAt 5 = .ok (.bipush 6, 2) := by decide +kernel
theorem dX10_workerAt_7 : decode cX10_workerAt 7 = .ok (.if_icmp .lt 7, 3) := by decide +kernel
theorem dX10_workerAt_10 : decode cX10_workerAt 10 = .ok (.aconst_null, 1) := by decide +kernel
theorem dX10_workerAt_11 : decode cX10_workerAt 11 = .ok (.goto 9, 3) := by decide +kernel
theorem dX10_workerAt_14 : decode cX10_workerAt 14 = .ok (.aload_n 0, 1) := by decide +kernel
theorem dX10_workerAt_15 : decode cX10_workerAt 15 = .ok (.getfield 40, 3) := by decide +kernel
theorem dX10_workerAt_18 : decode cX10_workerAt 18 = .ok (.iload_n 1, 1) := by decide +kernel
theorem dX10_workerAt_19 : decode cX10_workerAt 19 = .ok (.aaload, 1) := by decide +kernel
theorem dX10_workerAt_20 : decode cX10_workerAt 20 = .ok (.areturn, 1) := by decide +kernel
theorem dX10_timerAt_0 : decode cX10_timerAt 0 = .ok (.iload_n 1, 1) := by decide +kernel
theorem dX10_timerAt_1 : decode cX10_timerAt 1 = .ok (.ifCond .lt 11, 3) := by decide +kernel
theorem dX10_timerAt_4 : decode cX10_timerAt 4 = .ok (.iload_n 1, 1) := by decide +kernel
theorem dX10_timerAt_5 : decode cX10_timerAt 5 = .ok (.aload_n 0, 1) := by decide +kernel
theorem dX10_timerAt_6 : decode cX10_timerAt 6 = .ok (.getfield 141, 3) := by decide +kernel
theorem dX10_timerAt_9 : decode cX10_timerAt 9 = .ok (.if_icmp .lt 7, 3) := by decide +kernel
theorem dX10_timerAt_12 : decode cX10_timerAt 12 = .ok (.aconst_null, 1) := by decide +kernel
theorem dX10_timerAt_13 : decode cX10_timerAt 13 = .ok (.goto 9, 3) := by decide +kernel
theorem dX10_timerAt_16 : decode cX10_timerAt 16 = .ok (.aload_n 0, 1) := by decide +kernel
theorem dX10_timerAt_17 : decode cX10_timerAt 17 = .ok (.getfield 47, 3) := by decide +kernel
theorem dX10_timerAt_20 : decode cX10_timerAt 20 = .ok (.iload_n 1, 1) := by decide +kernel
theorem dX10_timerAt_21 : decode cX10_timerAt 21 = .ok (.aaload, 1) := by decide +kernel
theorem dX10_timerAt_22 : decode cX10_timerAt 22 = .ok (.areturn, 1) := by decide +kernel
theorem dX10_numberOf_0 : decode cX10_numberOf 0 = .ok (.aload_n 0, 1) := by decide +kernel
theorem dX10_numberOf_1 : decode cX10_numberOf 1 = .ok (.ifnonnull 7, 3) := by decide +kernel
theorem dX10_numberOf_4 : decode cX10_numberOf 4 = .ok (.iconst (-1), 1) := by decide +kernel
theorem dX10_numberOf_5 : decode cX10_numberOf 5 = .ok (.goto 7, 3) := by decide +kernel
theorem dX10_numberOf_8 : decode cX10_numberOf 8 = .ok (.aload_n 0, 1) := by decide +kernel
theorem dX10_numberOf_9 : decode cX10_numberOf 9 = .ok (.getfield 95, 3) := by decide +kernel
theorem dX10_numberOf_12 : decode cX10_numberOf 12 = .ok (.ireturn, 1) := by decide +kernel
theorem dX10_isKey_0 : decode cX10_isKey 0 = .ok (.iload_n 0, 1) := by decide +kernel
theorem dX10_isKey_1 : decode cX10_isKey 1 = .ok (.ifCond .lt 14, 3) := by decide +kernel
theorem dX10_isKey_4 : decode cX10_isKey 4 = .ok (.iload_n 0, 1) := by decide +kernel
theorem dX10_isKey_5 : decode cX10_isKey 5 = .ok (.sipush 9999, 3) := by decide +kernel
theorem dX10_isKey_8 : decode cX10_isKey 8 = .ok (.if_icmp .gt 7, 3) := by decide +kernel
theorem dX10_isKey_11 : decode cX10_isKey 11 = .ok (.iconst 1, 1) := by decide +kernel
theorem dX10_isKey_12 : decode cX10_isKey 12 = .ok (.goto 4, 3) := by decide +kernel
theorem dX10_isKey_15 : decode cX10_isKey 15 = .ok (.iconst 0, 1) := by decide +kernel
theorem dX10_isKey_16 : decode cX10_isKey 16 = .ok (.ireturn, 1) := by decide +kernel
theorem dX10_isWork_0 : decode cX10_isWork 0 = .ok (.iload_n 0, 1) := by decide +kernel
theorem dX10_isWork_1 : decode cX10_isWork 1 = .ok (.ifCond .lt 31, 3) := by decide +kernel
theorem dX10_isWork_4 : decode cX10_isWork 4 = .ok (.iload_n 0, 1) := by decide +kernel
theorem dX10_isWork_5 : decode cX10_isWork 5 = .ok (.bipush 9, 2) := by decide +kernel
theorem dX10_isWork_7 : decode cX10_isWork 7 = .ok (.if_icmp .gt 25, 3) := by decide +kernel
theorem dX10_isWork_10 : decode cX10_isWork 10 = .ok (.iload_n 1, 1) := by decide +kernel
theorem dX10_isWork_11 : decode cX10_isWork 11 = .ok (.iconst 1, 1) := by decide +kernel
theorem dX10_isWork_12 : decode cX10_isWork 12 = .ok (.if_icmp .lt 20, 3) := by decide +kernel
theorem dX10_isWork_15 : decode cX10_isWork 15 = .ok (.iload_n 1, 1) := by decide +kernel
theorem dX10_isWork_16 : decode cX10_isWork 16 = .ok (.bipush 20, 2) := by decide +kernel
theorem dX10_isWork_18 : decode cX10_isWork 18 = .ok (.if_icmp .gt 14, 3) := by decide +kernel
theorem dX10_isWork_21 : decode cX10_isWork 21 = .ok (.iload_n 2, 1) := by decide +kernel
theorem dX10_isWork_22 : decode cX10_isWork 22 = .ok (.invokestatic 234, 3) := by decide +kernel
theorem dX10_isWork_25 : decode cX10_isWork 25 = .ok (.ifCond .eq 7, 3) := by decide +kernel
theorem dX10_isWork_28 : decode cX10_isWork 28 = .ok (.iconst 1, 1) := by decide +kernel
theorem dX10_isWork_29 : decode cX10_isWork 29 = .ok (.goto 4, 3) := by decide +kernel
theorem dX10_isWork_32 : decode cX10_isWork 32 = .ok (.iconst 0, 1) := by decide +kernel
theorem dX10_isWork_33 : decode cX10_isWork 33 = .ok (.ireturn, 1) := by decide +kernel
theorem dX10_isCrew_0 : decode cX10_isCrew 0 = .ok (.iload_n 0, 1) := by decide +kernel
theorem dX10_isCrew_1 : decode cX10_isCrew 1 = .ok (.iconst 1, 1) := by decide +kernel
theorem dX10_isCrew_2 : decode cX10_isCrew 2 = .ok (.if_icmp .lt 13, 3) := by decide +kernel
theorem dX10_isCrew_5 : decode cX10_isCrew 5 = .ok (.iload_n 0, 1) := by decide +kernel
theorem dX10_isCrew_6 : decode cX10_isCrew 6 = .ok (.bipush 6, 2) := by decide +kernel
theorem dX10_isCrew_8 : decode cX10_isCrew 8 = .ok (.if_icmp .gt 7, 3) := by decide +kernel
theorem dX10_isCrew_11 : decode cX10_isCrew 11 = .ok (.iconst 1, 1) := by decide +kernel
theorem dX10_isCrew_12 : decode cX10_isCrew 12 = .ok (.goto 4, 3) := by decide +kernel
theorem dX10_isCrew_15 : decode cX10_isCrew 15 = .ok (.iconst 0, 1) := by decide +kernel
theorem dX10_isCrew_16 : decode cX10_isCrew 16 = .ok (.ireturn, 1) := by decide +kernel
theorem dX10_thousandths_0 : decode cX10_thousandths 0 = .ok (.iload_n 1, 1) := by decide +kernel
theorem dX10_thousandths_1 : decode cX10_thousandths 1 = .ok (.ifCond .gt 7, 3) := by decide +kernel
theorem dX10_thousandths_4 : decode cX10_thousandths 4 = .ok (.iconst 0, 1) := by decide +kernel
theorem dX10_thousandths_5 : decode cX10_thousandths 5 = .ok (.goto 13, 3) := by decide +kernel
theorem dX10_thousandths_8 : decode cX10_thousandths 8 = .ok (.ldc2_w 491, 3) := by decide +kernel
theorem dX10_thousandths_11 : decode cX10_thousandths 11 = .ok (.iload_n 0, 1) := by decide +kernel
theorem dX10_thousandths_12 : decode cX10_thousandths 12 = .ok (.i2l, 1) := by decide +kernel
theorem dX10_thousandths_13 : decode cX10_thousandths 13 = .ok (.lmul, 1) := by decide +kernel
theorem dX10_thousandths_14 : decode cX10_thousandths 14 = .ok (.iload_n 1, 1) := by decide +kernel
theorem dX10_thousandths_15 : decode cX10_thousandths 15 = .ok (.i2l, 1) := by decide +kernel
theorem dX10_thousandths_16 : decode cX10_thousandths 16 = .ok (.ldiv, 1) := by decide +kernel
theorem dX10_thousandths_17 : decode cX10_thousandths 17 = .ok (.l2i, 1) := by decide +kernel
theorem dX10_thousandths_18 : decode cX10_thousandths 18 = .ok (.ireturn, 1) := by decide +kernel
theorem dX10_placesIn_0 : decode cX10_placesIn 0 = .ok (.aload_n 1, 1) := by decide +kernel
theorem dX10_placesIn_1 : decode cX10_placesIn 1 = .ok (.getfield 160, 3) := by decide +kernel
theorem dX10_placesIn_4 : decode cX10_placesIn 4 = .ok (.ifCond .eq 5, 3) := by decide +kernel
theorem dX10_placesIn_7 : decode cX10_placesIn 7 = .ok (.iconst 0, 1) := by decide +kernel
theorem dX10_placesIn_8 : decode cX10_placesIn 8 = .ok (.ireturn, 1) := by decide +kernel
theorem dX10_placesIn_9 : decode cX10_placesIn 9 = .ok (.aload_n 0, 1) := by decide +kernel
theorem dX10_placesIn_10 : decode cX10_placesIn 10 = .ok (.getfield 10, 3) := by decide +kernel
theorem dX10_placesIn_13 : decode cX10_placesIn 13 = .ok (.getfield 111, 3) := by decide +kernel
theorem dX10_placesIn_16 : decode cX10_placesIn 16 = .ok (.iconst 4, 1) := by decide +kernel
theorem dX10_placesIn_17 : decode cX10_placesIn 17 = .ok (.iaload, 1) := by decide +kernel
theorem dX10_placesIn_18 : decode cX10_placesIn 18 = .ok (.aload_n 0, 1) := by decide +kernel
theorem dX10_placesIn_19 : decode cX10_placesIn 19 = .ok (.getfield 10, 3) := by decide +kernel
theorem dX10_placesIn_22 : decode cX10_placesIn 22 = .ok (.getfield 254, 3) := by decide +kernel
theorem dX10_placesIn_25 : decode cX10_placesIn 25 = .ok (.getfield 222, 3) := by decide +kernel
theorem dX10_placesIn_28 : decode cX10_placesIn 28 = .ok (.isub, 1) := by decide +kernel
theorem dX10_placesIn_29 : decode cX10_placesIn 29 = .ok (.sipush 400, 3) := by decide +kernel
theorem dX10_placesIn_32 : decode cX10_placesIn 32 = .ok (.aload_n 0, 1) := by decide +kernel
theorem dX10_placesIn_33 : decode cX10_placesIn 33 = .ok (.getfield 28, 3) := by decide +kernel
theorem dX10_placesIn_36 : decode cX10_placesIn 36 = .ok (.getfield 222, 3) := by decide +kernel
theorem dX10_placesIn_39 : decode cX10_placesIn 39 = .ok (.isub, 1) := by decide +kernel
theorem dX10_placesIn_40 : decode cX10_placesIn 40 = .ok (.invokestatic 493, 3) := by decide +kernel
theorem dX10_placesIn_43 : decode cX10_placesIn 43 = .ok (.istore_n 2, 1) := by decide +kernel
theorem dX10_placesIn_44 : decode cX10_placesIn 44 = .ok (.iconst 0, 1) := by decide +kernel
theorem dX10_placesIn_45 : decode cX10_placesIn 45 = .ok (.aload_n 1, 1) := by decide +kernel
theorem dX10_placesIn_46 : decode cX10_placesIn 46 = .ok (.getfield 496, 3) := by decide +kernel
theorem dX10_placesIn_49 : decode cX10_placesIn 49 = .ok (.aload_n 1, 1) := by decide +kernel
theorem dX10_placesIn_50 : decode cX10_placesIn 50 = .ok (.getfield 168, 3) := by decide +kernel
theorem dX10_placesIn_53 : decode cX10_placesIn 53 = .ok (.isub, 1) := by decide +kernel
theorem dX10_placesIn_54 : decode cX10_placesIn 54 = .ok (.iload_n 2, 1) := by decide +kernel
theorem dX10_placesIn_55 : decode cX10_placesIn 55 = .ok (.invokestatic 493, 3) := by decide +kernel
theorem dX10_placesIn_58 : decode cX10_placesIn 58 = .ok (.invokestatic 356, 3) := by decide +kernel
theorem dX10_placesIn_61 : decode cX10_placesIn 61 = .ok (.ireturn, 1) := by decide +kernel
theorem dX10_restOf_0 : decode cX10_restOf 0 = .ok (.aload_n 0, 1) := by decide +kernel
theorem dX10_restOf_1 : decode cX10_restOf 1 = .ok (.getfield 10, 3) := by decide +kernel
theorem dX10_restOf_4 : decode cX10_restOf 4 = .ok (.getfield 111, 3) := by decide +kernel
theorem dX10_restOf_7 : decode cX10_restOf 7 = .ok (.iconst 2, 1) := by decide +kernel
theorem dX10_restOf_8 : decode cX10_restOf 8 = .ok (.iaload, 1) := by decide +kernel
theorem dX10_restOf_9 : decode cX10_restOf 9 = .ok (.iconst 0, 1) := by decide +kernel
theorem dX10_restOf_10 : decode cX10_restOf 10 = .ok (.iload_n 1, 1) := by decide +kernel
theorem dX10_restOf_11 : decode cX10_restOf 11 = .ok (.iconst 1, 1) := by decide +kernel
theorem dX10_restOf_12 : decode cX10_restOf 12 = .ok (.isub, 1) := by decide +kernel
theorem dX10_restOf_13 : decode cX10_restOf 13 = .ok (.bipush 8, 2) := by decide +kernel
theorem dX10_restOf_15 : decode cX10_restOf 15 = .ok (.invokestatic 493, 3) := by decide +kernel
theorem dX10_restOf_18 : decode cX10_restOf 18 = .ok (.invokestatic 356, 3) := by decide +kernel
theorem dX10_restOf_21 : decode cX10_restOf 21 = .ok (.ishl, 1) := by decide +kernel
theorem dX10_restOf_22 : decode cX10_restOf 22 = .ok (.ireturn, 1) := by decide +kernel
theorem dX10_failingBy_0 : decode cX10_failingBy 0 = .ok (.iconst 0, 1) := by decide +kernel
theorem dX10_failingBy_1 : decode cX10_failingBy 1 = .ok (.istore_n 2, 1) := by decide +kernel
theorem dX10_failingBy_2 : decode cX10_failingBy 2 = .ok (.iconst 0, 1) := by decide +kernel
theorem dX10_failingBy_3 : decode cX10_failingBy 3 = .ok (.istore_n 3, 1) := by decide +kernel
theorem dX10_failingBy_4 : decode cX10_failingBy 4 = .ok (.iload_n 3, 1) := by decide +kernel
theorem dX10_failingBy_5 : decode cX10_failingBy 5 = .ok (.aload_n 0, 1) := by decide +kernel
theorem dX10_failingBy_6 : decode cX10_failingBy 6 = .ok (.getfield 10, 3) := by decide +kernel
theorem dX10_failingBy_9 : decode cX10_failingBy 9 = .ok (.getfield 254, 3) := by decide +kernel
theorem dX10_failingBy_12 : decode cX10_failingBy 12 = .ok (.getfield 222, 3) := by decide +kernel
theorem dX10_failingBy_15 : decode cX10_failingBy 15 = .ok (.if_icmp .ge 31, 3) := by decide +kernel
theorem dX10_failingBy_18 : decode cX10_failingBy 18 = .ok (.aload_n 0, 1) := by decide +kernel
theorem dX10_failingBy_19 : decode cX10_failingBy 19 = .ok (.getfield 10, 3) := by decide +kernel
theorem dX10_failingBy_22 : decode cX10_failingBy 22 = .ok (.getfield 254, 3) := by decide +kernel
theorem dX10_failingBy_25 : decode cX10_failingBy 25 = .ok (.getfield 380, 3) := by decide +kernel
theorem dX10_failingBy_28 : decode cX10_failingBy 28 = .ok (.iload_n 3, 1) := by decide +kernel
theorem dX10_failingBy_29 : decode cX10_failingBy 29 = .ok (.aaload, 1) := by decide +kernel
theorem dX10_failingBy_30 : decode cX10_failingBy 30 = .ok (.iload_n 1, 1) := by decide +kernel
theorem dX10_failingBy_31 : decode cX10_failingBy 31 = .ok (.invokevirtual 499, 3) := by decide +kernel
theorem dX10_failingBy_34 : decode cX10_failingBy 34 = .ok (.ifCond .eq 6, 3) := by decide +kernel
theorem dX10_failingBy_37 : decode cX10_failingBy 37 = .ok (.iinc 2 1, 3) := by decide +kernel
theorem dX10_failingBy_40 : decode cX10_failingBy 40 = .ok (.iinc 3 1, 3) := by decide +kernel
theorem dX10_failingBy_43 : decode cX10_failingBy 43 = .ok (.goto (-39), 3) := by decide +kernel
theorem dX10_failingBy_46 : decode cX10_failingBy 46 = .ok (.iload_n 2, 1) := by decide +kernel
theorem dX10_failingBy_47 : decode cX10_failingBy 47 = .ok (.ireturn, 1) := by decide +kernel
theorem dX10_goingAsideBy_0 : decode cX10_goingAsideBy 0 = .ok (.iconst 0, 1) := by decide +kernel
theorem dX10_goingAsideBy_1 : decode cX10_goingAsideBy 1 = .ok (.istore_n 2, 1) := by decide +kernel
theorem dX10_goingAsideBy_2 : decode cX10_goingAsideBy 2 = .ok (.iconst 0, 1) := by decide +kernel
theorem dX10_goingAsideBy_3 : decode cX10_goingAsideBy 3 = .ok (.istore_n 3, 1) := by decide +kernel
theorem dX10_goingAsideBy_4 : decode cX10_goingAsideBy 4 = .ok (.iload_n 3, 1) := by decide +kernel
theorem dX10_goingAsideBy_5 : decode cX10_goingAsideBy 5 = .ok (.aload_n 0, 1) := by decide +kernel
theorem dX10_goingAsideBy_6 : decode cX10_goingAsideBy 6 = .ok (.getfield 10, 3) := by decide +kernel
theorem dX10_goingAsideBy_9 : decode cX10_goingAsideBy 9 = .ok (.getfield 254, 3) := by decide +kernel
theorem dX10_goingAsideBy_12 : decode cX10_goingAsideBy 12 = .ok (.getfield 222, 3) := by decide +kernel
theorem dX10_goingAsideBy_15 : decode cX10_goingAsideBy 15 = .ok (.if_icmp .ge 62, 3) := by decide +kernel
theorem dX10_goingAsideBy_18 : decode cX10_goingAsideBy 18 = .ok (.aload_n 0, 1) := by decide +kernel
theorem dX10_goingAsideBy_19 : decode cX10_goingAsideBy 19 = .ok (.getfield 10, 3) := by decide +kernel
theorem dX10_goingAsideBy_22 : decode cX10_goingAsideBy 22 = .ok (.getfield 254, 3) := by decide +kernel
theorem dX10_goingAsideBy_25 : decode cX10_goingAsideBy 25 = .ok (.getfield 380, 3) := by decide +kernel
theorem dX10_goingAsideBy_28 : decode cX10_goingAsideBy 28 = .ok (.iload_n 3, 1) := by decide +kernel
theorem dX10_goingAsideBy_29 : decode cX10_goingAsideBy 29 = .ok (.aaload, 1) := by decide +kernel
theorem dX10_goingAsideBy_30 : decode cX10_goingAsideBy 30 = .ok (.astore 4, 2) := by decide +kernel
theorem dX10_goingAsideBy_32 : decode cX10_goingAsideBy 32 = .ok (.aload 4, 2) := by decide +kernel
theorem dX10_goingAsideBy_34 : decode cX10_goingAsideBy 34 = .ok (.iload_n 1, 1) := by decide +kernel
theorem dX10_goingAsideBy_35 : decode cX10_goingAsideBy 35 = .ok (.invokevirtual 499, 3) := by decide +kernel
theorem dX10_goingAsideBy_38 : decode cX10_goingAsideBy 38 = .ok (.ifCond .eq 33, 3) := by decide +kernel
theorem dX10_goingAsideBy_41 : decode cX10_goingAsideBy 41 = .ok (.aload 4, 2) := by decide +kernel
theorem dX10_goingAsideBy_43 : decode cX10_goingAsideBy 43 = .ok (.getfield 216, 3) := by decide +kernel
theorem dX10_goingAsideBy_46 : decode cX10_goingAsideBy 46 = .ok (.iconst 1, 1) := by decide +kernel
theorem dX10_goingAsideBy_47 : decode cX10_goingAsideBy 47 = .ok (.iadd, 1) := by decide +kernel
theorem dX10_goingAsideBy_48 : decode cX10_goingAsideBy 48 = .ok (.aload_n 0, 1) := by decide +kernel
theorem dX10_goingAsideBy_49 : decode cX10_goingAsideBy 49 = .ok (.getfield 10, 3) := by decide +kernel
theorem dX10_goingAsideBy_52 : decode cX10_goingAsideBy 52 = .ok (.getfield 111, 3) := by decide +kernel
theorem dX10_goingAsideBy_55 : decode cX10_goingAsideBy 55 = .ok (.iconst 3, 1) := by decide +kernel
theorem dX10_goingAsideBy_56 : decode cX10_goingAsideBy 56 = .ok (.iaload, 1) := by decide +kernel
theorem dX10_goingAsideBy_57 : decode cX10_goingAsideBy 57 = .ok (.if_icmp .lt 14, 3) := by decide +kernel
theorem dX10_goingAsideBy_60 : decode cX10_goingAsideBy 60 = .ok (.iload_n 2, 1) := by decide +kernel
theorem dX10_goingAsideBy_61 : decode cX10_goingAsideBy 61 = .ok (.iconst 1, 1) := by decide +kernel
theorem dX10_goingAsideBy_62 : decode cX10_goingAsideBy 62 = .ok (.aload_n 0, 1) := by decide +kernel
theorem dX10_goingAsideBy_63 : decode cX10_goingAsideBy 63 = .ok (.aload 4, 2) := by decide +kernel
theorem dX10_goingAsideBy_65 : decode cX10_goingAsideBy 65 = .ok (.invokevirtual 502, 3) := by decide +kernel
theorem dX10_goingAsideBy_68 : decode cX10_goingAsideBy 68 = .ok (.iadd, 1) := by decide +kernel
theorem dX10_goingAsideBy_69 : decode cX10_goingAsideBy 69 = .ok (.iadd, 1) := by decide +kernel
theorem dX10_goingAsideBy_70 : decode cX10_goingAsideBy 70 = .ok (.istore_n 2, 1) := by decide +kernel
theorem dX10_goingAsideBy_71 : decode cX10_goingAsideBy 71 = .ok (.iinc 3 1, 3) := by decide +kernel
theorem dX10_goingAsideBy_74 : decode cX10_goingAsideBy 74 = .ok (.goto (-70), 3) := by decide +kernel
theorem dX10_goingAsideBy_77 : decode cX10_goingAsideBy 77 = .ok (.iload_n 2, 1) := by decide +kernel
theorem dX10_goingAsideBy_78 : decode cX10_goingAsideBy 78 = .ok (.ireturn, 1) := by decide +kernel
theorem dX10_wakingBy_0 : decode cX10_wakingBy 0 = .ok (.iconst 0, 1) := by decide +kernel
theorem dX10_wakingBy_1 : decode cX10_wakingBy 1 = .ok (.istore_n 2, 1) := by decide +kernel
theorem dX10_wakingBy_2 : decode cX10_wakingBy 2 = .ok (.iconst 0, 1) := by decide +kernel
theorem dX10_wakingBy_3 : decode cX10_wakingBy 3 = .ok (.istore_n 3, 1) := by decide +kernel
theorem dX10_wakingBy_4 : decode cX10_wakingBy 4 = .ok (.iload_n 3, 1) := by decide +kernel
theorem dX10_wakingBy_5 : decode cX10_wakingBy 5 = .ok (.aload_n 0, 1) := by decide +kernel
theorem dX10_wakingBy_6 : decode cX10_wakingBy 6 = .ok (.getfield 10, 3) := by decide +kernel
theorem dX10_wakingBy_9 : decode cX10_wakingBy 9 = .ok (.getfield 254, 3) := by decide +kernel
theorem dX10_wakingBy_12 : decode cX10_wakingBy 12 = .ok (.getfield 222, 3) := by decide +kernel
theorem dX10_wakingBy_15 : decode cX10_wakingBy 15 = .ok (.if_icmp .ge 96, 3) := by decide +kernel
theorem dX10_wakingBy_18 : decode cX10_wakingBy 18 = .ok (.aload_n 0, 1) := by decide +kernel
theorem dX10_wakingBy_19 : decode cX10_wakingBy 19 = .ok (.getfield 10, 3) := by decide +kernel
theorem dX10_wakingBy_22 : decode cX10_wakingBy 22 = .ok (.getfield 254, 3) := by decide +kernel
theorem dX10_wakingBy_25 : decode cX10_wakingBy 25 = .ok (.getfield 380, 3) := by decide +kernel
theorem dX10_wakingBy_28 : decode cX10_wakingBy 28 = .ok (.iload_n 3, 1) := by decide +kernel
theorem dX10_wakingBy_29 : decode cX10_wakingBy 29 = .ok (.aaload, 1) := by decide +kernel
theorem dX10_wakingBy_30 : decode cX10_wakingBy 30 = .ok (.astore 4, 2) := by decide +kernel
theorem dX10_wakingBy_32 : decode cX10_wakingBy 32 = .ok (.aload 4, 2) := by decide +kernel
theorem dX10_wakingBy_34 : decode cX10_wakingBy 34 = .ok (.iload_n 1, 1) := by decide +kernel
theorem dX10_wakingBy_35 : decode cX10_wakingBy 35 = .ok (.invokevirtual 499, 3) := by decide +kernel
theorem dX10_wakingBy_38 : decode cX10_wakingBy 38 = .ok (.ifCond .eq 26, 3) := by decide +kernel
theorem dX10_wakingBy_41 : decode cX10_wakingBy 41 = .ok (.aload 4, 2) := by decide +kernel
theorem dX10_wakingBy_43 : decode cX10_wakingBy 43 = .ok (.getfield 216, 3) := by decide +kernel
theorem dX10_wakingBy_46 : decode cX10_wakingBy 46 = .ok (.iconst 1, 1) := by decide +kernel
theorem dX10_wakingBy_47 : decode cX10_wakingBy 47 = .ok (.iadd, 1) := by decide +kernel
theorem dX10_wakingBy_48 : decode cX10_wakingBy 48 = .ok (.aload_n 0, 1) := by decide +kernel
theorem dX10_wakingBy_49 : decode cX10_wakingBy 49 = .ok (.getfield 10, 3) := by decide +kernel
theorem dX10_wakingBy_52 : decode cX10_wakingBy 52 = .ok (.getfield 111, 3) := by decide +kernel
theorem dX10_wakingBy_55 : decode cX10_wakingBy 55 = .ok (.iconst 3, 1) := by decide +kernel
theorem dX10_wakingBy_56 : decode cX10_wakingBy 56 = .ok (.iaload, 1) := by decide +kernel
theorem dX10_wakingBy_57 : decode cX10_wakingBy 57 = .ok (.if_icmp .ge 7, 3) := by decide +kernel
theorem dX10_wakingBy_60 : decode cX10_wakingBy 60 = .ok (.iconst 1, 1) := by decide +kernel
theorem dX10_wakingBy_61 : decode cX10_wakingBy 61 = .ok (.goto 4, 3) := by decide +kernel
theorem dX10_wakingBy_64 : decode cX10_wakingBy 64 = .ok (.iconst 0, 1) := by decide +kernel
theorem dX10_wakingBy_65 : decode cX10_wakingBy 65 = .ok (.istore 5, 2) := by decide +kernel
theorem dX10_wakingBy_67 : decode cX10_wakingBy 67 = .ok (.aload 4, 2) := by decide +kernel
theorem dX10_wakingBy_69 : decode cX10_wakingBy 69 = .ok (.iload_n 1, 1) := by decide +kernel
theorem dX10_wakingBy_70 : decode cX10_wakingBy 70 = .ok (.invokevirtual 505, 3) := by decide +kernel
theorem dX10_wakingBy_73 : decode cX10_wakingBy 73 = .ok (.ifCond .ne 29, 3) := by decide +kernel
theorem dX10_wakingBy_76 : decode cX10_wakingBy 76 = .ok (.iload 5, 2) := by decide +kernel
theorem dX10_wakingBy_78 : decode cX10_wakingBy 78 = .ok (.ifCond .eq 27, 3) := by decide +kernel
theorem dX10_wakingBy_81 : decode cX10_wakingBy 81 = .ok (.aload 4, 2) := by decide +kernel
theorem dX10_wakingBy_83 : decode cX10_wakingBy 83 = .ok (.getfield 115, 3) := by decide +kernel
theorem dX10_wakingBy_86 : decode cX10_wakingBy 86 = .ok (.aload_n 0, 1) := by decide +kernel
theorem dX10_wakingBy_87 : decode cX10_wakingBy 87 = .ok (.aload 4, 2) := by decide +kernel
theorem dX10_wakingBy_89 : decode cX10_wakingBy 89 = .ok (.getfield 216, 3) := by decide +kernel
theorem dX10_wakingBy_92 : decode cX10_wakingBy 92 = .ok (.iconst 1, 1) := by decide +kernel
theorem dX10_wakingBy_93 : decode cX10_wakingBy 93 = .ok (.iadd, 1) := by decide +kernel
theorem dX10_wakingBy_94 : decode cX10_wakingBy 94 = .ok (.invokevirtual 461, 3) := by decide +kernel
theorem dX10_wakingBy_97 : decode cX10_wakingBy 97 = .ok (.iadd, 1) := by decide +kernel
theorem dX10_wakingBy_98 : decode cX10_wakingBy 98 = .ok (.iload_n 1, 1) := by decide +kernel
theorem dX10_wakingBy_99 : decode cX10_wakingBy 99 = .ok (.if_icmp .gt 6, 3) := by decide +kernel
theorem dX10_wakingBy_102 : decode cX10_wakingBy 102 = .ok (.iinc 2 1, 3) := by decide +kernel
theorem dX10_wakingBy_105 : decode cX10_wakingBy 105 = .ok (.iinc 3 1, 3) := by decide +kernel
theorem dX10_wakingBy_108 : decode cX10_wakingBy 108 = .ok (.goto (-104), 3) := by decide +kernel
theorem dX10_wakingBy_111 : decode cX10_wakingBy 111 = .ok (.iload_n 2, 1) := by decide +kernel
theorem dX10_wakingBy_112 : decode cX10_wakingBy 112 = .ok (.ireturn, 1) := by decide +kernel
theorem dX10_heldBehindAll_0 : decode cX10_heldBehindAll 0 = .ok (.iconst 0, 1) := by decide +kernel
theorem dX10_heldBehindAll_1 : decode cX10_heldBehindAll 1 = .ok (.istore_n 2, 1) := by decide +kernel
theorem dX10_heldBehindAll_2 : decode cX10_heldBehindAll 2 = .ok (.iconst 0, 1) := by decide +kernel
theorem dX10_heldBehindAll_3 : decode cX10_heldBehindAll 3 = .ok (.istore_n 3, 1) := by decide +kernel
theorem dX10_heldBehindAll_4 : decode cX10_heldBehindAll 4 = .ok (.iload_n 3, 1) := by decide +kernel
theorem dX10_heldBehindAll_5 : decode cX10_heldBehindAll 5 = .ok (.aload_n 0, 1) := by decide +kernel
theorem dX10_heldBehindAll_6 : decode cX10_heldBehindAll 6 = .ok (.getfield 10, 3) := by decide +kernel
theorem dX10_heldBehindAll_9 : decode cX10_heldBehindAll 9 = .ok (.getfield 254, 3) := by decide +kernel
theorem dX10_heldBehindAll_12 : decode cX10_heldBehindAll 12 = .ok (.getfield 222, 3) := by decide +kernel
theorem dX10_heldBehindAll_15 : decode cX10_heldBehindAll 15 = .ok (.if_icmp .ge 69, 3) := by decide +kernel
theorem dX10_heldBehindAll_18 : decode cX10_heldBehindAll 18 = .ok (.aload_n 0, 1) := by decide +kernel
theorem dX10_heldBehindAll_19 : decode cX10_heldBehindAll 19 = .ok (.getfield 10, 3) := by decide +kernel
theorem dX10_heldBehindAll_22 : decode cX10_heldBehindAll 22 = .ok (.getfield 254, 3) := by decide +kernel
theorem dX10_heldBehindAll_25 : decode cX10_heldBehindAll 25 = .ok (.getfield 380, 3) := by decide +kernel
theorem dX10_heldBehindAll_28 : decode cX10_heldBehindAll 28 = .ok (.iload_n 3, 1) := by decide +kernel
theorem dX10_heldBehindAll_29 : decode cX10_heldBehindAll 29 = .ok (.aaload, 1) := by decide +kernel
theorem dX10_heldBehindAll_30 : decode cX10_heldBehindAll 30 = .ok (.astore 4, 2) := by decide +kernel
theorem dX10_heldBehindAll_32 : decode cX10_heldBehindAll 32 = .ok (.aload 4, 2) := by decide +kernel
theorem dX10_heldBehindAll_34 : decode cX10_heldBehindAll 34 = .ok (.astore 5, 2) := by decide +kernel
theorem dX10_heldBehindAll_36 : decode cX10_heldBehindAll 36 = .ok (.aload 5, 2) := by decide +kernel
theorem dX10_heldBehindAll_38 : decode cX10_heldBehindAll 38 = .ok (.ifnull 22, 3) := by decide +kernel
theorem dX10_heldBehindAll_41 : decode cX10_heldBehindAll 41 = .ok (.aload 5, 2) := by decide +kernel
theorem dX10_heldBehindAll_43 : decode cX10_heldBehindAll 43 = .ok (.getfield 105, 3) := by decide +kernel
theorem dX10_heldBehindAll_46 : decode cX10_heldBehindAll 46 = .ok (.iconst 1, 1) := by decide +kernel
theorem dX10_heldBehindAll_47 : decode cX10_heldBehindAll 47 = .ok (.if_icmp .ne 13, 3) := by decide +kernel
theorem dX10_heldBehindAll_50 : decode cX10_heldBehindAll 50 = .ok (.aload 5, 2) := by decide +kernel
theorem dX10_heldBehindAll_52 : decode cX10_heldBehindAll 52 = .ok (.getfield 330, 3) := by decide +kernel
theorem dX10_heldBehindAll_55 : decode cX10_heldBehindAll 55 = .ok (.astore 5, 2) := by decide +kernel
theorem dX10_heldBehindAll_57 : decode cX10_heldBehindAll 57 = .ok (.goto (-21), 3) := by decide +kernel
theorem dX10_heldBehindAll_60 : decode cX10_heldBehindAll 60 = .ok (.aload 4, 2) := by decide +kernel
theorem dX10_heldBehindAll_62 : decode cX10_heldBehindAll 62 = .ok (.getfield 105, 3) := by decide +kernel
theorem dX10_heldBehindAll_65 : decode cX10_heldBehindAll 65 = .ok (.iconst 1, 1) := by decide +kernel
theorem dX10_heldBehindAll_66 : decode cX10_heldBehindAll 66 = .ok (.if_icmp .ne 12, 3) := by decide +kernel
theorem dX10_heldBehindAll_69 : decode cX10_heldBehindAll 69 = .ok (.aload 5, 2) := by decide +kernel
theorem dX10_heldBehindAll_71 : decode cX10_heldBehindAll 71 = .ok (.aload_n 1, 1) := by decide +kernel
theorem dX10_heldBehindAll_72 : decode cX10_heldBehindAll 72 = .ok (.if_acmp .ne 6, 3) := by decide +kernel
theorem dX10_heldBehindAll_75 : decode cX10_heldBehindAll 75 = .ok (.iinc 2 1, 3) := by decide +kernel
theorem dX10_heldBehindAll_78 : decode cX10_heldBehindAll 78 = .ok (.iinc 3 1, 3) := by decide +kernel
theorem dX10_heldBehindAll_81 : decode cX10_heldBehindAll 81 = .ok (.goto (-77), 3) := by decide +kernel
theorem dX10_heldBehindAll_84 : decode cX10_heldBehindAll 84 = .ok (.iload_n 2, 1) := by decide +kernel
theorem dX10_heldBehindAll_85 : decode cX10_heldBehindAll 85 = .ok (.ireturn, 1) := by decide +kernel
theorem dX10_hangsOn_0 : decode cX10_hangsOn 0 = .ok (.aload_n 0, 1) := by decide +kernel
theorem dX10_hangsOn_1 : decode cX10_hangsOn 1 = .ok (.astore_n 2, 1) := by decide +kernel
theorem dX10_hangsOn_2 : decode cX10_hangsOn 2 = .ok (.aload_n 2, 1) := by decide +kernel
theorem dX10_hangsOn_3 : decode cX10_hangsOn 3 = .ok (.ifnull 37, 3) := by decide +kernel
theorem dX10_hangsOn_6 : decode cX10_hangsOn 6 = .ok (.aload_n 2, 1) := by decide +kernel
theorem dX10_hangsOn_7 : decode cX10_hangsOn 7 = .ok (.getfield 95, 3) := by decide +kernel
theorem dX10_hangsOn_10 : decode cX10_hangsOn 10 = .ok (.aload_n 1, 1) := by decide +kernel
theorem dX10_hangsOn_11 : decode cX10_hangsOn 11 = .ok (.getfield 95, 3) := by decide +kernel
theorem dX10_hangsOn_14 : decode cX10_hangsOn 14 = .ok (.if_icmp .le 26, 3) := by decide +kernel
theorem dX10_hangsOn_17 : decode cX10_hangsOn 17 = .ok (.aload_n 2, 1) := by decide +kernel
theorem dX10_hangsOn_18 : decode cX10_hangsOn 18 = .ok (.invokevirtual 508, 3) := by decide +kernel
theorem dX10_hangsOn_21 : decode cX10_hangsOn 21 = .ok (.ifCond .ne 11, 3) := by decide +kernel
theorem dX10_hangsOn_24 : decode cX10_hangsOn 24 = .ok (.aload_n 2, 1) := by decide +kernel
theorem dX10_hangsOn_25 : decode cX10_hangsOn 25 = .ok (.getfield 105, 3) := by decide +kernel
theorem dX10_hangsOn_28 : decode cX10_hangsOn 28 = .ok (.iconst 5, 1) := by decide +kernel
theorem dX10_hangsOn_29 : decode cX10_hangsOn 29 = .ok (.if_icmp .ne 11, 3) := by decide +kernel
theorem dX10_hangsOn_32 : decode cX10_hangsOn 32 = .ok (.aload_n 2, 1) := by decide +kernel
theorem dX10_hangsOn_33 : decode cX10_hangsOn 33 = .ok (.getfield 330, 3) := by decide +kernel
theorem dX10_hangsOn_36 : decode cX10_hangsOn 36 = .ok (.astore_n 2, 1) := by decide +kernel
theorem dX10_hangsOn_37 : decode cX10_hangsOn 37 = .ok (.goto (-35), 3) := by decide +kernel
theorem dX10_hangsOn_40 : decode cX10_hangsOn 40 = .ok (.aload_n 2, 1) := by decide +kernel
theorem dX10_hangsOn_41 : decode cX10_hangsOn 41 = .ok (.aload_n 1, 1) := by decide +kernel
theorem dX10_hangsOn_42 : decode cX10_hangsOn 42 = .ok (.if_acmp .ne 7, 3) := by decide +kernel
theorem dX10_hangsOn_45 : decode cX10_hangsOn 45 = .ok (.iconst 1, 1) := by decide +kernel
theorem dX10_hangsOn_46 : decode cX10_hangsOn 46 = .ok (.goto 4, 3) := by decide +kernel
theorem dX10_hangsOn_49 : decode cX10_hangsOn 49 = .ok (.iconst 0, 1) := by decide +kernel
theorem dX10_hangsOn_50 : decode cX10_hangsOn 50 = .ok (.ireturn, 1) := by decide +kernel
theorem dX10_asideBy_0 : decode cX10_asideBy 0 = .ok (.iconst 0, 1) := by decide +kernel
theorem dX10_asideBy_1 : decode cX10_asideBy 1 = .ok (.istore_n 2, 1) := by decide +kernel
theorem dX10_asideBy_2 : decode cX10_asideBy 2 = .ok (.iconst 0, 1) := by decide +kernel
theorem dX10_asideBy_3 : decode cX10_asideBy 3 = .ok (.istore_n 3, 1) := by decide +kernel
theorem dX10_asideBy_4 : decode cX10_asideBy 4 = .ok (.iload_n 3, 1) := by decide +kernel
theorem dX10_asideBy_5 : decode cX10_asideBy 5 = .ok (.aload_n 0, 1) := by decide +kernel
theorem dX10_asideBy_6 : decode cX10_asideBy 6 = .ok (.getfield 32, 3) := by decide +kernel
theorem dX10_asideBy_9 : decode cX10_asideBy 9 = .ok (.getfield 222, 3) := by decide +kernel
theorem dX10_asideBy_12 : decode cX10_asideBy 12 = .ok (.if_icmp .ge 28, 3) := by decide +kernel
theorem dX10_asideBy_15 : decode cX10_asideBy 15 = .ok (.aload_n 0, 1) := by decide +kernel
theorem dX10_asideBy_16 : decode cX10_asideBy 16 = .ok (.getfield 32, 3) := by decide +kernel
theorem dX10_asideBy_19 : decode cX10_asideBy 19 = .ok (.getfield 380, 3) := by decide +kernel
theorem dX10_asideBy_22 : decode cX10_asideBy 22 = .ok (.iload_n 3, 1) := by decide +kernel
theorem dX10_asideBy_23 : decode cX10_asideBy 23 = .ok (.aaload, 1) := by decide +kernel
theorem dX10_asideBy_24 : decode cX10_asideBy 24 = .ok (.getfield 511, 3) := by decide +kernel
theorem dX10_asideBy_27 : decode cX10_asideBy 27 = .ok (.iload_n 1, 1) := by decide +kernel
theorem dX10_asideBy_28 : decode cX10_asideBy 28 = .ok (.if_icmp .ne 6, 3) := by decide +kernel
theorem dX10_asideBy_31 : decode cX10_asideBy 31 = .ok (.iinc 2 1, 3) := by decide +kernel
theorem dX10_asideBy_34 : decode cX10_asideBy 34 = .ok (.iinc 3 1, 3) := by decide +kernel
theorem dX10_asideBy_37 : decode cX10_asideBy 37 = .ok (.goto (-33), 3) := by decide +kernel
theorem dX10_asideBy_40 : decode cX10_asideBy 40 = .ok (.iload_n 2, 1) := by decide +kernel
theorem dX10_asideBy_41 : decode cX10_asideBy 41 = .ok (.ireturn, 1) := by decide +kernel
