theorem dX10_init_0 : decode cX10_init 0 = .ok (.aload_n 0, 1) := by decide +kernel
theorem dX10_init_1 : decode cX10_init 1 = .ok (.invokespecial 1, 3) := by decide +kernel
theorem dX10_init_4 : decode cX10_init 4 = .ok (.aload_n 0, 1) := by decide +kernel
theorem dX10_init_5 : decode cX10_init 5 = .ok (.new 7, 3) := by decide +kernel
theorem dX10_init_8 : decode cX10_init 8 = .ok (.dup, 1) := by decide +kernel
theorem dX10_init_9 : decode cX10_init 9 = .ok (.invokespecial 9, 3) := by decide +kernel
theorem dX10_init_12 : decode cX10_init 12 = .ok (.putfield 10, 3) := by decide +kernel
theorem dX10_init_15 : decode cX10_init 15 = .ok (.aload_n 0, 1) := by decide +kernel
theorem dX10_init_16 : decode cX10_init 16 = .ok (.new 16, 3) := by decide +kernel
theorem dX10_init_19 : decode cX10_init 19 = .ok (.dup, 1) := by decide +kernel
theorem dX10_init_20 : decode cX10_init 20 = .ok (.invokespecial 18, 3) := by decide +kernel
theorem dX10_init_23 : decode cX10_init 23 = .ok (.putfield 19, 3) := by decide +kernel
theorem dX10_init_26 : decode cX10_init 26 = .ok (.aload_n 0, 1) := by decide +kernel
theorem dX10_init_27 : decode cX10_init 27 = .ok (.new 23, 3) := by decide +kernel
theorem dX10_init_30 : decode cX10_init 30 = .ok (.dup, 1) := by decide +kernel
theorem dX10_init_31 : decode cX10_init 31 = .ok (.sipush 400, 3) := by decide +kernel
theorem dX10_init_34 : decode cX10_init 34 = .ok (.invokespecial 25, 3) := by decide +kernel
theorem dX10_init_37 : decode cX10_init 37 = .ok (.putfield 28, 3) := by decide +kernel
theorem dX10_init_40 : decode cX10_init 40 = .ok (.aload_n 0, 1) := by decide +kernel
theorem dX10_init_41 : decode cX10_init 41 = .ok (.new 23, 3) := by decide +kernel
theorem dX10_init_44 : decode cX10_init 44 = .ok (.dup, 1) := by decide +kernel
theorem dX10_init_45 : decode cX10_init 45 = .ok (.sipush 400, 3) := by decide +kernel
theorem dX10_init_48 : decode cX10_init 48 = .ok (.invokespecial 25, 3) := by decide +kernel
theorem dX10_init_51 : decode cX10_init 51 = .ok (.putfield 32, 3) := by decide +kernel
theorem dX10_init_54 : decode cX10_init 54 = .ok (.aload_n 0, 1) := by decide +kernel
theorem dX10_init_55 : decode cX10_init 55 = .ok (.new 23, 3) := by decide +kernel
theorem dX10_init_58 : decode cX10_init 58 = .ok (.dup, 1) := by decide +kernel
theorem dX10_init_59 : decode cX10_init 59 = .ok (.bipush 48, 2) := by decide +kernel
theorem dX10_init_61 : decode cX10_init 61 = .ok (.invokespecial 25, 3) := by decide +kernel
theorem dX10_init_64 : decode cX10_init 64 = .ok (.putfield 35, 3) := by decide +kernel
theorem dX10_init_67 : decode cX10_init 67 = .ok (.aload_n 0, 1) := by decide +kernel
theorem dX10_init_68 : decode cX10_init 68 = .ok (.bipush 6, 2) := by decide +kernel
theorem dX10_init_70 : decode cX10_init 70 = .ok (.anewarray 38, 3) := by decide +kernel
theorem dX10_init_73 : decode cX10_init 73 = .ok (.putfield 40, 3) := by decide +kernel
theorem dX10_init_76 : decode cX10_init 76 = .ok (.iconst 0, 1) := by decide +kernel
theorem dX10_init_77 : decode cX10_init 77 = .ok (.istore_n 1, 1) := by decide +kernel
theorem dX10_init_78 : decode cX10_init 78 = .ok (.iload_n 1, 1) := by decide +kernel
theorem dX10_init_79 : decode cX10_init 79 = .ok (.bipush 6, 2) := by decide +kernel
theorem dX10_init_81 : decode cX10_init 81 = .ok (.if_icmp .ge 23, 3) := by decide +kernel
theorem dX10_init_84 : decode cX10_init 84 = .ok (.aload_n 0, 1) := by decide +kernel
theorem dX10_init_85 : decode cX10_init 85 = .ok (.getfield 40, 3) := by decide +kernel
theorem dX10_init_88 : decode cX10_init 88 = .ok (.iload_n 1, 1) := by decide +kernel
theorem dX10_init_89 : decode cX10_init 89 = .ok (.new 38, 3) := by decide +kernel
theorem dX10_init_92 : decode cX10_init 92 = .ok (.dup, 1) := by decide +kernel
theorem dX10_init_93 : decode cX10_init 93 = .ok (.iload_n 1, 1) := by decide +kernel
theorem dX10_init_94 : decode cX10_init 94 = .ok (.invokespecial 44, 3) := by decide +kernel
theorem dX10_init_97 : decode cX10_init 97 = .ok (.aastore, 1) := by decide +kernel
theorem dX10_init_98 : decode cX10_init 98 = .ok (.iinc 1 1, 3) := by decide +kernel
theorem dX10_init_101 : decode cX10_init 101 = .ok (.goto (-23), 3) := by decide +kernel
theorem dX10_init_104 : decode cX10_init 104 = .ok (.aload_n 0, 1) := by decide +kernel
theorem dX10_init_105 : decode cX10_init 105 = .ok (.bipush 12, 2) := by decide +kernel
theorem dX10_init_107 : decode cX10_init 107 = .ok (.anewarray 45, 3) := by decide +kernel
theorem dX10_init_110 : decode cX10_init 110 = .ok (.putfield 47, 3) := by decide +kernel
theorem dX10_init_113 : decode cX10_init 113 = .ok (.aload_n 0, 1) := by decide +kernel
theorem dX10_init_114 : decode cX10_init 114 = .ok (.new 51, 3) := by decide +kernel
theorem dX10_init_117 : decode cX10_init 117 = .ok (.dup, 1) := by decide +kernel
theorem dX10_init_118 : decode cX10_init 118 = .ok (.invokespecial 53, 3) := by decide +kernel
theorem dX10_init_121 : decode cX10_init 121 = .ok (.putfield 54, 3) := by decide +kernel
theorem dX10_init_124 : decode cX10_init 124 = .ok (.aload_n 0, 1) := by decide +kernel
theorem dX10_init_125 : decode cX10_init 125 = .ok (.new 58, 3) := by decide +kernel
theorem dX10_init_128 : decode cX10_init 128 = .ok (.dup, 1) := by decide +kernel
theorem dX10_init_129 : decode cX10_init 129 = .ok (.invokespecial 60, 3) := by decide +kernel
theorem dX10_init_132 : decode cX10_init 132 = .ok (.putfield 61, 3) := by decide +kernel
theorem dX10_init_135 : decode cX10_init 135 = .ok (.aload_n 0, 1) := by decide +kernel
theorem dX10_init_136 : decode cX10_init 136 = .ok (.new 65, 3) := by decide +kernel
theorem dX10_init_139 : decode cX10_init 139 = .ok (.dup, 1) := by decide +kernel
theorem dX10_init_140 : decode cX10_init 140 = .ok (.invokespecial 67, 3) := by decide +kernel
theorem dX10_init_143 : decode cX10_init 143 = .ok (.putfield 68, 3) := by decide +kernel
theorem dX10_init_146 : decode cX10_init 146 = .ok (.return_, 1) := by decide +kernel
theorem dX10_put_0 : decode cX10_put 0 = .ok (.aload_n 0, 1) := by decide +kernel
theorem dX10_put_1 : decode cX10_put 1 = .ok (.aload_n 0, 1) := by decide +kernel
theorem dX10_put_2 : decode cX10_put 2 = .ok (.iload_n 1, 1) := by decide +kernel
theorem dX10_put_3 : decode cX10_put 3 = .ok (.iload_n 2, 1) := by decide +kernel
theorem dX10_put_4 : decode cX10_put 4 = .ok (.iload_n 3, 1) := by decide +kernel
theorem dX10_put_5 : decode cX10_put 5 = .ok (.iload 4, 2) := by decide +kernel
theorem dX10_put_7 : decode cX10_put 7 = .ok (.iload 5, 2) := by decide +kernel
theorem dX10_put_9 : decode cX10_put 9 = .ok (.invokevirtual 72, 3) := by decide +kernel
theorem dX10_put_12 : decode cX10_put 12 = .ok (.invokevirtual 76, 3) := by decide +kernel
theorem dX10_put_15 : decode cX10_put 15 = .ok (.ireturn, 1) := by decide +kernel
theorem dX10_take_0 : decode cX10_take 0 = .ok (.aload_n 0, 1) := by decide +kernel
theorem dX10_take_1 : decode cX10_take 1 = .ok (.aload_n 0, 1) := by decide +kernel
theorem dX10_take_2 : decode cX10_take 2 = .ok (.iload_n 1, 1) := by decide +kernel
theorem dX10_take_3 : decode cX10_take 3 = .ok (.invokevirtual 80, 3) := by decide +kernel
theorem dX10_take_6 : decode cX10_take 6 = .ok (.invokevirtual 76, 3) := by decide +kernel
theorem dX10_take_9 : decode cX10_take 9 = .ok (.ireturn, 1) := by decide +kernel
theorem dX10_done_0 : decode cX10_done 0 = .ok (.aload_n 0, 1) := by decide +kernel
theorem dX10_done_1 : decode cX10_done 1 = .ok (.iload_n 1, 1) := by decide +kernel
theorem dX10_done_2 : decode cX10_done 2 = .ok (.invokevirtual 83, 3) := by decide +kernel
theorem dX10_done_5 : decode cX10_done 5 = .ok (.astore_n 3, 1) := by decide +kernel
theorem dX10_done_6 : decode cX10_done 6 = .ok (.aload_n 3, 1) := by decide +kernel
theorem dX10_done_7 : decode cX10_done 7 = .ok (.ifnonnull 7, 3) := by decide +kernel
theorem dX10_done_10 : decode cX10_done 10 = .ok (.aconst_null, 1) := by decide +kernel
theorem dX10_done_11 : decode cX10_done 11 = .ok (.goto 8, 3) := by decide +kernel
theorem dX10_done_14 : decode cX10_done 14 = .ok (.aload_n 3, 1) := by decide +kernel
theorem dX10_done_15 : decode cX10_done 15 = .ok (.iload_n 2, 1) := by decide +kernel
theorem dX10_done_16 : decode cX10_done 16 = .ok (.invokevirtual 87, 3) := by decide +kernel
theorem dX10_done_19 : decode cX10_done 19 = .ok (.astore 4, 2) := by decide +kernel
theorem dX10_done_21 : decode cX10_done 21 = .ok (.aload 4, 2) := by decide +kernel
theorem dX10_done_23 : decode cX10_done 23 = .ok (.ifnonnull 19, 3) := by decide +kernel
theorem dX10_done_26 : decode cX10_done 26 = .ok (.aload_n 0, 1) := by decide +kernel
theorem dX10_done_27 : decode cX10_done 27 = .ok (.aload_n 3, 1) := by decide +kernel
theorem dX10_done_28 : decode cX10_done 28 = .ok (.ifnonnull 8, 3) := by decide +kernel
theorem dX10_done_31 : decode cX10_done 31 = .ok (.bipush (-2), 2) := by decide +kernel
theorem dX10_done_33 : decode cX10_done 33 = .ok (.goto 5, 3) := by decide +kernel
theorem dX10_done_36 : decode cX10_done 36 = .ok (.bipush (-3), 2) := by decide +kernel
theorem dX10_done_38 : decode cX10_done 38 = .ok (.invokevirtual 76, 3) := by decide +kernel
theorem dX10_done_41 : decode cX10_done 41 = .ok (.ireturn, 1) := by decide +kernel
theorem dX10_done_42 : decode cX10_done 42 = .ok (.aload_n 0, 1) := by decide +kernel
theorem dX10_done_43 : decode cX10_done 43 = .ok (.aload 4, 2) := by decide +kernel
theorem dX10_done_45 : decode cX10_done 45 = .ok (.invokevirtual 91, 3) := by decide +kernel
theorem dX10_done_48 : decode cX10_done 48 = .ok (.aload 4, 2) := by decide +kernel
theorem dX10_done_50 : decode cX10_done 50 = .ok (.getfield 95, 3) := by decide +kernel
theorem dX10_done_53 : decode cX10_done 53 = .ok (.ireturn, 1) := by decide +kernel
theorem dX10_fail_0 : decode cX10_fail 0 = .ok (.aload_n 0, 1) := by decide +kernel
theorem dX10_fail_1 : decode cX10_fail 1 = .ok (.iload_n 1, 1) := by decide +kernel
theorem dX10_fail_2 : decode cX10_fail 2 = .ok (.invokevirtual 83, 3) := by decide +kernel
theorem dX10_fail_5 : decode cX10_fail 5 = .ok (.astore 4, 2) := by decide +kernel
theorem dX10_fail_7 : decode cX10_fail 7 = .ok (.aload 4, 2) := by decide +kernel
theorem dX10_fail_9 : decode cX10_fail 9 = .ok (.ifnull 14, 3) := by decide +kernel
theorem dX10_fail_12 : decode cX10_fail 12 = .ok (.iload_n 3, 1) := by decide +kernel
theorem dX10_fail_13 : decode cX10_fail 13 = .ok (.iconst 1, 1) := by decide +kernel
theorem dX10_fail_14 : decode cX10_fail 14 = .ok (.if_icmp .lt 9, 3) := by decide +kernel
theorem dX10_fail_17 : decode cX10_fail 17 = .ok (.iload_n 3, 1) := by decide +kernel
theorem dX10_fail_18 : decode cX10_fail 18 = .ok (.bipush 99, 2) := by decide +kernel
theorem dX10_fail_20 : decode cX10_fail 20 = .ok (.if_icmp .le 10, 3) := by decide +kernel
theorem dX10_fail_23 : decode cX10_fail 23 = .ok (.aload_n 0, 1) := by decide +kernel
theorem dX10_fail_24 : decode cX10_fail 24 = .ok (.bipush (-2), 2) := by decide +kernel
theorem dX10_fail_26 : decode cX10_fail 26 = .ok (.invokevirtual 76, 3) := by decide +kernel
theorem dX10_fail_29 : decode cX10_fail 29 = .ok (.ireturn, 1) := by decide +kernel
theorem dX10_fail_30 : decode cX10_fail 30 = .ok (.aload 4, 2) := by decide +kernel
theorem dX10_fail_32 : decode cX10_fail 32 = .ok (.iload_n 2, 1) := by decide +kernel
theorem dX10_fail_33 : decode cX10_fail 33 = .ok (.invokevirtual 87, 3) := by decide +kernel
theorem dX10_fail_36 : decode cX10_fail 36 = .ok (.astore 5, 2) := by decide +kernel
theorem dX10_fail_38 : decode cX10_fail 38 = .ok (.aload 5, 2) := by decide +kernel
theorem dX10_fail_40 : decode cX10_fail 40 = .ok (.ifnonnull 10, 3) := by decide +kernel
theorem dX10_fail_43 : decode cX10_fail 43 = .ok (.aload_n 0, 1) := by decide +kernel
theorem dX10_fail_44 : decode cX10_fail 44 = .ok (.bipush (-3), 2) := by decide +kernel
theorem dX10_fail_46 : decode cX10_fail 46 = .ok (.invokevirtual 76, 3) := by decide +kernel
theorem dX10_fail_49 : decode cX10_fail 49 = .ok (.ireturn, 1) := by decide +kernel
theorem dX10_fail_50 : decode cX10_fail 50 = .ok (.aload_n 0, 1) := by decide +kernel
theorem dX10_fail_51 : decode cX10_fail 51 = .ok (.aload 5, 2) := by decide +kernel
theorem dX10_fail_53 : decode cX10_fail 53 = .ok (.iload_n 3, 1) := by decide +kernel
theorem dX10_fail_54 : decode cX10_fail 54 = .ok (.invokevirtual 101, 3) := by decide +kernel
theorem dX10_fail_57 : decode cX10_fail 57 = .ok (.aload 5, 2) := by decide +kernel
theorem dX10_fail_59 : decode cX10_fail 59 = .ok (.getfield 105, 3) := by decide +kernel
theorem dX10_fail_62 : decode cX10_fail 62 = .ok (.ireturn, 1) := by decide +kernel
theorem dX10_beat_0 : decode cX10_beat 0 = .ok (.aload_n 0, 1) := by decide +kernel
theorem dX10_beat_1 : decode cX10_beat 1 = .ok (.iload_n 1, 1) := by decide +kernel
theorem dX10_beat_2 : decode cX10_beat 2 = .ok (.invokevirtual 83, 3) := by decide +kernel
theorem dX10_beat_5 : decode cX10_beat 5 = .ok (.astore_n 3, 1) := by decide +kernel
theorem dX10_beat_6 : decode cX10_beat 6 = .ok (.aload_n 3, 1) := by decide +kernel
theorem dX10_beat_7 : decode cX10_beat 7 = .ok (.ifnonnull 7, 3) := by decide +kernel
theorem dX10_beat_10 : decode cX10_beat 10 = .ok (.aconst_null, 1) := by decide +kernel
theorem dX10_beat_11 : decode cX10_beat 11 = .ok (.goto 8, 3) := by decide +kernel
theorem dX10_beat_14 : decode cX10_beat 14 = .ok (.aload_n 3, 1) := by decide +kernel
theorem dX10_beat_15 : decode cX10_beat 15 = .ok (.iload_n 2, 1) := by decide +kernel
theorem dX10_beat_16 : decode cX10_beat 16 = .ok (.invokevirtual 87, 3) := by decide +kernel
theorem dX10_beat_19 : decode cX10_beat 19 = .ok (.astore 4, 2) := by decide +kernel
theorem dX10_beat_21 : decode cX10_beat 21 = .ok (.aload 4, 2) := by decide +kernel
theorem dX10_beat_23 : decode cX10_beat 23 = .ok (.ifnonnull 19, 3) := by decide +kernel
theorem dX10_beat_26 : decode cX10_beat 26 = .ok (.aload_n 0, 1) := by decide +kernel
theorem dX10_beat_27 : decode cX10_beat 27 = .ok (.aload_n 3, 1) := by decide +kernel
theorem dX10_beat_28 : decode cX10_beat 28 = .ok (.ifnonnull 8, 3) := by decide +kernel
theorem dX10_beat_31 : decode cX10_beat 31 = .ok (.bipush (-2), 2) := by decide +kernel
theorem dX10_beat_33 : decode cX10_beat 33 = .ok (.goto 5, 3) := by decide +kernel
theorem dX10_beat_36 : decode cX10_beat 36 = .ok (.bipush (-3), 2) := by decide +kernel
theorem dX10_beat_38 : decode cX10_beat 38 = .ok (.invokevirtual 76, 3) := by decide +kernel
theorem dX10_beat_41 : decode cX10_beat 41 = .ok (.ireturn, 1) := by decide +kernel
theorem dX10_beat_42 : decode cX10_beat 42 = .ok (.aload 4, 2) := by decide +kernel
theorem dX10_beat_44 : decode cX10_beat 44 = .ok (.aload_n 0, 1) := by decide +kernel
theorem dX10_beat_45 : decode cX10_beat 45 = .ok (.getfield 108, 3) := by decide +kernel
theorem dX10_beat_48 : decode cX10_beat 48 = .ok (.aload_n 0, 1) := by decide +kernel
theorem dX10_beat_49 : decode cX10_beat 49 = .ok (.getfield 10, 3) := by decide +kernel
theorem dX10_beat_52 : decode cX10_beat 52 = .ok (.getfield 111, 3) := by decide +kernel
theorem dX10_beat_55 : decode cX10_beat 55 = .ok (.iconst 1, 1) := by decide +kernel
theorem dX10_beat_56 : decode cX10_beat 56 = .ok (.iaload, 1) := by decide +kernel
theorem dX10_beat_57 : decode cX10_beat 57 = .ok (.iadd, 1) := by decide +kernel
theorem dX10_beat_58 : decode cX10_beat 58 = .ok (.putfield 115, 3) := by decide +kernel
theorem dX10_beat_61 : decode cX10_beat 61 = .ok (.aload 4, 2) := by decide +kernel
theorem dX10_beat_63 : decode cX10_beat 63 = .ok (.getfield 115, 3) := by decide +kernel
theorem dX10_beat_66 : decode cX10_beat 66 = .ok (.ireturn, 1) := by decide +kernel
theorem dX10_back_0 : decode cX10_back 0 = .ok (.aload_n 0, 1) := by decide +kernel
theorem dX10_back_1 : decode cX10_back 1 = .ok (.iload_n 1, 1) := by decide +kernel
theorem dX10_back_2 : decode cX10_back 2 = .ok (.invokevirtual 83, 3) := by decide +kernel
theorem dX10_back_5 : decode cX10_back 5 = .ok (.astore_n 3, 1) := by decide +kernel
theorem dX10_back_6 : decode cX10_back 6 = .ok (.aload_n 3, 1) := by decide +kernel
theorem dX10_back_7 : decode cX10_back 7 = .ok (.ifnonnull 7, 3) := by decide +kernel
theorem dX10_back_10 : decode cX10_back 10 = .ok (.aconst_null, 1) := by decide +kernel
theorem dX10_back_11 : decode cX10_back 11 = .ok (.goto 8, 3) := by decide +kernel
theorem dX10_back_14 : decode cX10_back 14 = .ok (.aload_n 3, 1) := by decide +kernel
theorem dX10_back_15 : decode cX10_back 15 = .ok (.iload_n 2, 1) := by decide +kernel
theorem dX10_back_16 : decode cX10_back 16 = .ok (.invokevirtual 87, 3) := by decide +kernel
theorem dX10_back_19 : decode cX10_back 19 = .ok (.astore 4, 2) := by decide +kernel
theorem dX10_back_21 : decode cX10_back 21 = .ok (.aload 4, 2) := by decide +kernel
theorem dX10_back_23 : decode cX10_back 23 = .ok (.ifnonnull 19, 3) := by decide +kernel
theorem dX10_back_26 : decode cX10_back 26 = .ok (.aload_n 0, 1) := by decide +kernel
theorem dX10_back_27 : decode cX10_back 27 = .ok (.aload_n 3, 1) := by decide +kernel
theorem dX10_back_28 : decode cX10_back 28 = .ok (.ifnonnull 8, 3) := by decide +kernel
theorem dX10_back_31 : decode cX10_back 31 = .ok (.bipush (-2), 2) := by decide +kernel
theorem dX10_back_33 : decode cX10_back 33 = .ok (.goto 5, 3) := by decide +kernel
theorem dX10_back_36 : decode cX10_back 36 = .ok (.bipush (-3), 2) := by decide +kernel
theorem dX10_back_38 : decode cX10_back 38 = .ok (.invokevirtual 76, 3) := by decide +kernel
theorem dX10_back_41 : decode cX10_back 41 = .ok (.ireturn, 1) := by decide +kernel
theorem dX10_back_42 : decode cX10_back 42 = .ok (.aload 4, 2) := by decide +kernel
theorem dX10_back_44 : decode cX10_back 44 = .ok (.invokevirtual 118, 3) := by decide +kernel
theorem dX10_back_47 : decode cX10_back 47 = .ok (.pop, 1) := by decide +kernel
theorem dX10_back_48 : decode cX10_back 48 = .ok (.aload_n 0, 1) := by decide +kernel
theorem dX10_back_49 : decode cX10_back 49 = .ok (.aload 4, 2) := by decide +kernel
theorem dX10_back_51 : decode cX10_back 51 = .ok (.invokevirtual 122, 3) := by decide +kernel
theorem dX10_back_54 : decode cX10_back 54 = .ok (.aload 4, 2) := by decide +kernel
theorem dX10_back_56 : decode cX10_back 56 = .ok (.getfield 95, 3) := by decide +kernel
theorem dX10_back_59 : decode cX10_back 59 = .ok (.ireturn, 1) := by decide +kernel
theorem dX10_hand_0 : decode cX10_hand 0 = .ok (.aload_n 0, 1) := by decide +kernel
theorem dX10_hand_1 : decode cX10_hand 1 = .ok (.iload_n 1, 1) := by decide +kernel
theorem dX10_hand_2 : decode cX10_hand 2 = .ok (.invokevirtual 83, 3) := by decide +kernel
theorem dX10_hand_5 : decode cX10_hand 5 = .ok (.astore 4, 2) := by decide +kernel
theorem dX10_hand_7 : decode cX10_hand 7 = .ok (.aload_n 0, 1) := by decide +kernel
theorem dX10_hand_8 : decode cX10_hand 8 = .ok (.iload_n 3, 1) := by decide +kernel
theorem dX10_hand_9 : decode cX10_hand 9 = .ok (.invokevirtual 83, 3) := by decide +kernel
theorem dX10_hand_12 : decode cX10_hand 12 = .ok (.astore 5, 2) := by decide +kernel
theorem dX10_hand_14 : decode cX10_hand 14 = .ok (.aload 4, 2) := by decide +kernel
theorem dX10_hand_16 : decode cX10_hand 16 = .ok (.ifnull 8, 3) := by decide +kernel
theorem dX10_hand_19 : decode cX10_hand 19 = .ok (.aload 5, 2) := by decide +kernel
theorem dX10_hand_21 : decode cX10_hand 21 = .ok (.ifnonnull 10, 3) := by decide +kernel
theorem dX10_hand_24 : decode cX10_hand 24 = .ok (.aload_n 0, 1) := by decide +kernel
theorem dX10_hand_25 : decode cX10_hand 25 = .ok (.bipush (-2), 2) := by decide +kernel
theorem dX10_hand_27 : decode cX10_hand 27 = .ok (.invokevirtual 76, 3) := by decide +kernel
theorem dX10_hand_30 : decode cX10_hand 30 = .ok (.ireturn, 1) := by decide +kernel
theorem dX10_hand_31 : decode cX10_hand 31 = .ok (.aload 4, 2) := by decide +kernel
theorem dX10_hand_33 : decode cX10_hand 33 = .ok (.iload_n 2, 1) := by decide +kernel
theorem dX10_hand_34 : decode cX10_hand 34 = .ok (.invokevirtual 87, 3) := by decide +kernel
theorem dX10_hand_37 : decode cX10_hand 37 = .ok (.astore 6, 2) := by decide +kernel
theorem dX10_hand_39 : decode cX10_hand 39 = .ok (.aload 6, 2) := by decide +kernel
theorem dX10_hand_41 : decode cX10_hand 41 = .ok (.ifnull 11, 3) := by decide +kernel
theorem dX10_hand_44 : decode cX10_hand 44 = .ok (.aload 5, 2) := by decide +kernel
theorem dX10_hand_46 : decode cX10_hand 46 = .ok (.getfield 125, 3) := by decide +kernel
theorem dX10_hand_49 : decode cX10_hand 49 = .ok (.ifnull 10, 3) := by decide +kernel
theorem dX10_hand_52 : decode cX10_hand 52 = .ok (.aload_n 0, 1) := by decide +kernel
theorem dX10_hand_53 : decode cX10_hand 53 = .ok (.bipush (-3), 2) := by decide +kernel
theorem dX10_hand_55 : decode cX10_hand 55 = .ok (.invokevirtual 76, 3) := by decide +kernel
theorem dX10_hand_58 : decode cX10_hand 58 = .ok (.ireturn, 1) := by decide +kernel
theorem dX10_hand_59 : decode cX10_hand 59 = .ok (.aload 6, 2) := by decide +kernel
theorem dX10_hand_61 : decode cX10_hand 61 = .ok (.invokevirtual 118, 3) := by decide +kernel
theorem dX10_hand_64 : decode cX10_hand 64 = .ok (.pop, 1) := by decide +kernel
theorem dX10_hand_65 : decode cX10_hand 65 = .ok (.aload 6, 2) := by decide +kernel
theorem dX10_hand_67 : decode cX10_hand 67 = .ok (.aload 5, 2) := by decide +kernel
theorem dX10_hand_69 : decode cX10_hand 69 = .ok (.iload_n 2, 1) := by decide +kernel
theorem dX10_hand_70 : decode cX10_hand 70 = .ok (.aload_n 0, 1) := by decide +kernel
theorem dX10_hand_71 : decode cX10_hand 71 = .ok (.getfield 108, 3) := by decide +kernel
theorem dX10_hand_74 : decode cX10_hand 74 = .ok (.aload_n 0, 1) := by decide +kernel
theorem dX10_hand_75 : decode cX10_hand 75 = .ok (.getfield 10, 3) := by decide +kernel
theorem dX10_hand_78 : decode cX10_hand 78 = .ok (.getfield 111, 3) := by decide +kernel
theorem dX10_hand_81 : decode cX10_hand 81 = .ok (.iconst 1, 1) := by decide +kernel
theorem dX10_hand_82 : decode cX10_hand 82 = .ok (.iaload, 1) := by decide +kernel
theorem dX10_hand_83 : decode cX10_hand 83 = .ok (.iadd, 1) := by decide +kernel
theorem dX10_hand_84 : decode cX10_hand 84 = .ok (.invokevirtual 129, 3) := by decide +kernel
theorem dX10_hand_87 : decode cX10_hand 87 = .ok (.aload 6, 2) := by decide +kernel
theorem dX10_hand_89 : decode cX10_hand 89 = .ok (.getfield 95, 3) := by decide +kernel
theorem dX10_hand_92 : decode cX10_hand 92 = .ok (.ireturn, 1) := by decide +kernel
theorem dX10_every_0 : decode cX10_every 0 = .ok (.aload_n 0, 1) := by decide +kernel
theorem dX10_every_1 : decode cX10_every 1 = .ok (.getfield 10, 3) := by decide +kernel
theorem dX10_every_4 : decode cX10_every 4 = .ok (.iload_n 1, 1) := by decide +kernel
theorem dX10_every_5 : decode cX10_every 5 = .ok (.invokevirtual 133, 3) := by decide +kernel
theorem dX10_every_8 : decode cX10_every 8 = .ok (.astore 6, 2) := by decide +kernel
theorem dX10_every_10 : decode cX10_every 10 = .ok (.aload 6, 2) := by decide +kernel
theorem dX10_every_12 : decode cX10_every 12 = .ok (.ifnull 26, 3) := by decide +kernel
theorem dX10_every_15 : decode cX10_every 15 = .ok (.iload_n 2, 1) := by decide +kernel
theorem dX10_every_16 : decode cX10_every 16 = .ok (.iload_n 3, 1) := by decide +kernel
theorem dX10_every_17 : decode cX10_every 17 = .ok (.iload 4, 2) := by decide +kernel
theorem dX10_every_19 : decode cX10_every 19 = .ok (.invokestatic 137, 3) := by decide +kernel
theorem dX10_every_22 : decode cX10_every 22 = .ok (.ifCond .eq 16, 3) := by decide +kernel
theorem dX10_every_25 : decode cX10_every 25 = .ok (.iload 5, 2) := by decide +kernel
theorem dX10_every_27 : decode cX10_every 27 = .ok (.iconst 1, 1) := by decide +kernel
theorem dX10_every_28 : decode cX10_every 28 = .ok (.if_icmp .lt 10, 3) := by decide +kernel
theorem dX10_every_31 : decode cX10_every 31 = .ok (.iload 5, 2) := by decide +kernel
theorem dX10_every_33 : decode cX10_every 33 = .ok (.bipush 99, 2) := by decide +kernel
theorem dX10_every_35 : decode cX10_every 35 = .ok (.if_icmp .le 10, 3) := by decide +kernel
theorem dX10_every_38 : decode cX10_every 38 = .ok (.aload_n 0, 1) := by decide +kernel
theorem dX10_every_39 : decode cX10_every 39 = .ok (.bipush (-2), 2) := by decide +kernel
theorem dX10_every_41 : decode cX10_every 41 = .ok (.invokevirtual 76, 3) := by decide +kernel
theorem dX10_every_44 : decode cX10_every 44 = .ok (.ireturn, 1) := by decide +kernel
theorem dX10_every_45 : decode cX10_every 45 = .ok (.aload_n 0, 1) := by decide +kernel
theorem dX10_every_46 : decode cX10_every 46 = .ok (.getfield 141, 3) := by decide +kernel
theorem dX10_every_49 : decode cX10_every 49 = .ok (.bipush 12, 2) := by decide +kernel
theorem dX10_every_51 : decode cX10_every 51 = .ok (.if_icmp .lt 10, 3) := by decide +kernel
theorem dX10_every_54 : decode cX10_every 54 = .ok (.aload_n 0, 1) := by decide +kernel
theorem dX10_every_55 : decode cX10_every 55 = .ok (.bipush (-6), 2) := by decide +kernel
theorem dX10_every_57 : decode cX10_every 57 = .ok (.invokevirtual 76, 3) := by decide +kernel
theorem dX10_every_60 : decode cX10_every 60 = .ok (.ireturn, 1) := by decide +kernel
theorem dX10_every_61 : decode cX10_every 61 = .ok (.aload_n 0, 1) := by decide +kernel
theorem dX10_every_62 : decode cX10_every 62 = .ok (.getfield 47, 3) := by decide +kernel
theorem dX10_every_65 : decode cX10_every 65 = .ok (.aload_n 0, 1) := by decide +kernel
theorem dX10_every_66 : decode cX10_every 66 = .ok (.getfield 141, 3) := by decide +kernel
theorem dX10_every_69 : decode cX10_every 69 = .ok (.new 45, 3) := by decide +kernel
theorem dX10_every_72 : decode cX10_every 72 = .ok (.dup, 1) := by decide +kernel
theorem dX10_every_73 : decode cX10_every 73 = .ok (.aload 6, 2) := by decide +kernel
theorem dX10_every_75 : decode cX10_every 75 = .ok (.iload_n 2, 1) := by decide +kernel
theorem dX10_every_76 : decode cX10_every 76 = .ok (.iload_n 3, 1) := by decide +kernel
theorem dX10_every_77 : decode cX10_every 77 = .ok (.iload 4, 2) := by decide +kernel
theorem dX10_every_79 : decode cX10_every 79 = .ok (.iload 5, 2) := by decide +kernel
theorem dX10_every_81 : decode cX10_every 81 = .ok (.aload_n 0, 1) := by decide +kernel
theorem dX10_every_82 : decode cX10_every 82 = .ok (.getfield 108, 3) := by decide +kernel
theorem dX10_every_85 : decode cX10_every 85 = .ok (.iload 5, 2) := by decide +kernel
theorem dX10_every_87 : decode cX10_every 87 = .ok (.iadd, 1) := by decide +kernel
theorem dX10_every_88 : decode cX10_every 88 = .ok (.invokespecial 144, 3) := by decide +kernel
theorem dX10_every_91 : decode cX10_every 91 = .ok (.aastore, 1) := by decide +kernel
theorem dX10_every_92 : decode cX10_every 92 = .ok (.aload_n 0, 1) := by decide +kernel
theorem dX10_every_93 : decode cX10_every 93 = .ok (.dup, 1) := by decide +kernel
theorem dX10_every_94 : decode cX10_every 94 = .ok (.getfield 141, 3) := by decide +kernel
theorem dX10_every_97 : decode cX10_every 97 = .ok (.iconst 1, 1) := by decide +kernel
theorem dX10_every_98 : decode cX10_every 98 = .ok (.iadd, 1) := by decide +kernel
theorem dX10_every_99 : decode cX10_every 99 = .ok (.putfield 141, 3) := by decide +kernel
theorem dX10_every_102 : decode cX10_every 102 = .ok (.aload_n 0, 1) := by decide +kernel
theorem dX10_every_103 : decode cX10_every 103 = .ok (.getfield 141, 3) := by decide +kernel
theorem dX10_every_106 : decode cX10_every 106 = .ok (.iconst 1, 1) := by decide +kernel
theorem dX10_every_107 : decode cX10_every 107 = .ok (.isub, 1) := by decide +kernel
theorem dX10_every_108 : decode cX10_every 108 = .ok (.ireturn, 1) := by decide +kernel
theorem dX10_stop_0 : decode cX10_stop 0 = .ok (.aload_n 0, 1) := by decide +kernel
theorem dX10_stop_1 : decode cX10_stop 1 = .ok (.iload_n 1, 1) := by decide +kernel
theorem dX10_stop_2 : decode cX10_stop 2 = .ok (.invokevirtual 147, 3) := by decide +kernel
theorem dX10_stop_5 : decode cX10_stop 5 = .ok (.astore_n 2, 1) := by decide +kernel
theorem dX10_stop_6 : decode cX10_stop 6 = .ok (.aload_n 2, 1) := by decide +kernel
theorem dX10_stop_7 : decode cX10_stop 7 = .ok (.ifnonnull 10, 3) := by decide +kernel
theorem dX10_stop_10 : decode cX10_stop 10 = .ok (.aload_n 0, 1) := by decide +kernel
theorem dX10_stop_11 : decode cX10_stop 11 = .ok (.bipush (-2), 2) := by decide +kernel
theorem dX10_stop_13 : decode cX10_stop 13 = .ok (.invokevirtual 76, 3) := by decide +kernel
theorem dX10_stop_16 : decode cX10_stop 16 = .ok (.ireturn, 1) := by decide +kernel
theorem dX10_stop_17 : decode cX10_stop 17 = .ok (.aload_n 2, 1) := by decide +kernel
theorem dX10_stop_18 : decode cX10_stop 18 = .ok (.getfield 151, 3) := by decide +kernel
theorem dX10_stop_21 : decode cX10_stop 21 = .ok (.iconst (-1), 1) := by decide +kernel
theorem dX10_stop_22 : decode cX10_stop 22 = .ok (.if_icmp .ne 10, 3) := by decide +kernel
theorem dX10_stop_25 : decode cX10_stop 25 = .ok (.aload_n 0, 1) := by decide +kernel
theorem dX10_stop_26 : decode cX10_stop 26 = .ok (.bipush (-3), 2) := by decide +kernel
theorem dX10_stop_28 : decode cX10_stop 28 = .ok (.invokevirtual 76, 3) := by decide +kernel
theorem dX10_stop_31 : decode cX10_stop 31 = .ok (.ireturn, 1) := by decide +kernel
theorem dX10_stop_32 : decode cX10_stop 32 = .ok (.aload_n 2, 1) := by decide +kernel
theorem dX10_stop_33 : decode cX10_stop 33 = .ok (.iconst (-1), 1) := by decide +kernel
theorem dX10_stop_34 : decode cX10_stop 34 = .ok (.putfield 151, 3) := by decide +kernel
theorem dX10_stop_37 : decode cX10_stop 37 = .ok (.aload_n 2, 1) := by decide +kernel
theorem dX10_stop_38 : decode cX10_stop 38 = .ok (.getfield 154, 3) := by decide +kernel
theorem dX10_stop_41 : decode cX10_stop 41 = .ok (.ireturn, 1) := by decide +kernel
theorem dX10_tick_0 : decode cX10_tick 0 = .ok (.iload_n 1, 1) := by decide +kernel
theorem dX10_tick_1 : decode cX10_tick 1 = .ok (.iconst 1, 1) := by decide +kernel
theorem dX10_tick_2 : decode cX10_tick 2 = .ok (.if_icmp .lt 9, 3) := by decide +kernel
theorem dX10_tick_5 : decode cX10_tick 5 = .ok (.iload_n 1, 1) := by decide +kernel
theorem dX10_tick_6 : decode cX10_tick 6 = .ok (.bipush 99, 2) := by decide +kernel
theorem dX10_tick_8 : decode cX10_tick 8 = .ok (.if_icmp .le 10, 3) := by decide +kernel
theorem dX10_tick_11 : decode cX10_tick 11 = .ok (.aload_n 0, 1) := by decide +kernel
theorem dX10_tick_12 : decode cX10_tick 12 = .ok (.bipush (-2), 2) := by decide +kernel
theorem dX10_tick_14 : decode cX10_tick 14 = .ok (.invokevirtual 76, 3) := by decide +kernel
theorem dX10_tick_17 : decode cX10_tick 17 = .ok (.ireturn, 1) := by decide +kernel
theorem dX10_tick_18 : decode cX10_tick 18 = .ok (.iconst 0, 1) := by decide +kernel
theorem dX10_tick_19 : decode cX10_tick 19 = .ok (.istore_n 2, 1) := by decide +kernel
theorem dX10_tick_20 : decode cX10_tick 20 = .ok (.iload_n 2, 1) := by decide +kernel
theorem dX10_tick_21 : decode cX10_tick 21 = .ok (.iload_n 1, 1) := by decide +kernel
theorem dX10_tick_22 : decode cX10_tick 22 = .ok (.if_icmp .ge 13, 3) := by decide +kernel
theorem dX10_tick_25 : decode cX10_tick 25 = .ok (.aload_n 0, 1) := by decide +kernel
theorem dX10_tick_26 : decode cX10_tick 26 = .ok (.invokevirtual 157, 3) := by decide +kernel
theorem dX10_tick_29 : decode cX10_tick 29 = .ok (.iinc 2 1, 3) := by decide +kernel
theorem dX10_tick_32 : decode cX10_tick 32 = .ok (.goto (-12), 3) := by decide +kernel
theorem dX10_tick_35 : decode cX10_tick 35 = .ok (.aload_n 0, 1) := by decide +kernel
theorem dX10_tick_36 : decode cX10_tick 36 = .ok (.getfield 108, 3) := by decide +kernel
theorem dX10_tick_39 : decode cX10_tick 39 = .ok (.ireturn, 1) := by decide +kernel
theorem dX10_drain_0 : decode cX10_drain 0 = .ok (.aload_n 0, 1) := by decide +kernel
theorem dX10_drain_1 : decode cX10_drain 1 = .ok (.getfield 10, 3) := by decide +kernel
theorem dX10_drain_4 : decode cX10_drain 4 = .ok (.iload_n 1, 1) := by decide +kernel
theorem dX10_drain_5 : decode cX10_drain 5 = .ok (.invokevirtual 133, 3) := by decide +kernel
theorem dX10_drain_8 : decode cX10_drain 8 = .ok (.astore_n 2, 1) := by decide +kernel
theorem dX10_drain_9 : decode cX10_drain 9 = .ok (.aload_n 2, 1) := by decide +kernel
theorem dX10_drain_10 : decode cX10_drain 10 = .ok (.ifnonnull 10, 3) := by decide +kernel
theorem dX10_drain_13 : decode cX10_drain 13 = .ok (.aload_n 0, 1) := by decide +kernel
theorem dX10_drain_14 : decode cX10_drain 14 = .ok (.bipush (-2), 2) := by decide +kernel
theorem dX10_drain_16 : decode cX10_drain 16 = .ok (.invokevirtual 76, 3) := by decide +kernel
theorem dX10_drain_19 : decode cX10_drain 19 = .ok (.ireturn, 1) := by decide +kernel
theorem dX10_drain_20 : decode cX10_drain 20 = .ok (.aload_n 2, 1) := by decide +kernel
theorem dX10_drain_21 : decode cX10_drain 21 = .ok (.getfield 160, 3) := by decide +kernel
theorem dX10_drain_24 : decode cX10_drain 24 = .ok (.ifCond .eq 10, 3) := by decide +kernel
theorem dX10_drain_27 : decode cX10_drain 27 = .ok (.aload_n 0, 1) := by decide +kernel
theorem dX10_drain_28 : decode cX10_drain 28 = .ok (.bipush (-3), 2) := by decide +kernel
theorem dX10_drain_30 : decode cX10_drain 30 = .ok (.invokevirtual 76, 3) := by decide +kernel
theorem dX10_drain_33 : decode cX10_drain 33 = .ok (.ireturn, 1) := by decide +kernel
theorem dX10_drain_34 : decode cX10_drain 34 = .ok (.aload_n 2, 1) := by decide +kernel
theorem dX10_drain_35 : decode cX10_drain 35 = .ok (.iconst 1, 1) := by decide +kernel
theorem dX10_drain_36 : decode cX10_drain 36 = .ok (.putfield 160, 3) := by decide +kernel
theorem dX10_drain_39 : decode cX10_drain 39 = .ok (.aload_n 2, 1) := by decide +kernel
theorem dX10_drain_40 : decode cX10_drain 40 = .ok (.invokevirtual 165, 3) := by decide +kernel
theorem dX10_drain_43 : decode cX10_drain 43 = .ok (.aload_n 2, 1) := by decide +kernel
theorem dX10_drain_44 : decode cX10_drain 44 = .ok (.getfield 168, 3) := by decide +kernel
theorem dX10_drain_47 : decode cX10_drain 47 = .ok (.ireturn, 1) := by decide +kernel
theorem dX10_open_0 : decode cX10_open 0 = .ok (.aload_n 0, 1) := by decide +kernel
theorem dX10_open_1 : decode cX10_open 1 = .ok (.getfield 10, 3) := by decide +kernel
theorem dX10_open_4 : decode cX10_open 4 = .ok (.iload_n 1, 1) := by decide +kernel
theorem dX10_open_5 : decode cX10_open 5 = .ok (.invokevirtual 133, 3) := by decide +kernel
theorem dX10_open_8 : decode cX10_open 8 = .ok (.astore_n 2, 1) := by decide +kernel
theorem dX10_open_9 : decode cX10_open 9 = .ok (.aload_n 2, 1) := by decide +kernel
theorem dX10_open_10 : decode cX10_open 10 = .ok (.ifnonnull 10, 3) := by decide +kernel
theorem dX10_open_13 : decode cX10_open 13 = .ok (.aload_n 0, 1) := by decide +kernel
theorem dX10_open_14 : decode cX10_open 14 = .ok (.bipush (-2), 2) := by decide +kernel
theorem dX10_open_16 : decode cX10_open 16 = .ok (.invokevirtual 76, 3) := by decide +kernel
theorem dX10_open_19 : decode cX10_open 19 = .ok (.ireturn, 1) := by decide +kernel
theorem dX10_open_20 : decode cX10_open 20 = .ok (.aload_n 2, 1) := by decide +kernel
theorem dX10_open_21 : decode cX10_open 21 = .ok (.getfield 160, 3) := by decide +kernel
theorem dX10_open_24 : decode cX10_open 24 = .ok (.ifCond .ne 10, 3) := by decide +kernel
theorem dX10_open_27 : decode cX10_open 27 = .ok (.aload_n 0, 1) := by decide +kernel
theorem dX10_open_28 : decode cX10_open 28 = .ok (.bipush (-3), 2) := by decide +kernel
theorem dX10_open_30 : decode cX10_open 30 = .ok (.invokevirtual 76, 3) := by decide +kernel
theorem dX10_open_33 : decode cX10_open 33 = .ok (.ireturn, 1) := by decide +kernel
theorem dX10_open_34 : decode cX10_open 34 = .ok (.aload_n 2, 1) := by decide +kernel
theorem dX10_open_35 : decode cX10_open 35 = .ok (.iconst 0, 1) := by decide +kernel
theorem dX10_open_36 : decode cX10_open 36 = .ok (.putfield 160, 3) := by decide +kernel
theorem dX10_open_39 : decode cX10_open 39 = .ok (.iconst 0, 1) := by decide +kernel
theorem dX10_open_40 : decode cX10_open 40 = .ok (.ireturn, 1) := by decide +kernel
theorem dX10_cancel_0 : decode cX10_cancel 0 = .ok (.aload_n 0, 1) := by decide +kernel
theorem dX10_cancel_1 : decode cX10_cancel 1 = .ok (.iload_n 1, 1) := by decide +kernel
theorem dX10_cancel_2 : decode cX10_cancel 2 = .ok (.invokevirtual 171, 3) := by decide +kernel
theorem dX10_cancel_5 : decode cX10_cancel 5 = .ok (.astore_n 2, 1) := by decide +kernel
theorem dX10_cancel_6 : decode cX10_cancel 6 = .ok (.aload_n 2, 1) := by decide +kernel
theorem dX10_cancel_7 : decode cX10_cancel 7 = .ok (.ifnonnull 10, 3) := by decide +kernel
theorem dX10_cancel_10 : decode cX10_cancel 10 = .ok (.aload_n 0, 1) := by decide +kernel
theorem dX10_cancel_11 : decode cX10_cancel 11 = .ok (.bipush (-2), 2) := by decide +kernel
theorem dX10_cancel_13 : decode cX10_cancel 13 = .ok (.invokevirtual 76, 3) := by decide +kernel
theorem dX10_cancel_16 : decode cX10_cancel 16 = .ok (.ireturn, 1) := by decide +kernel
theorem dX10_cancel_17 : decode cX10_cancel 17 = .ok (.aload_n 2, 1) := by decide +kernel
theorem dX10_cancel_18 : decode cX10_cancel 18 = .ok (.invokevirtual 174, 3) := by decide +kernel
theorem dX10_cancel_21 : decode cX10_cancel 21 = .ok (.ifCond .ne 10, 3) := by decide +kernel
theorem dX10_cancel_24 : decode cX10_cancel 24 = .ok (.aload_n 0, 1) := by decide +kernel
theorem dX10_cancel_25 : decode cX10_cancel 25 = .ok (.bipush (-3), 2) := by decide +kernel
theorem dX10_cancel_27 : decode cX10_cancel 27 = .ok (.invokevirtual 76, 3) := by decide +kernel
theorem dX10_cancel_30 : decode cX10_cancel 30 = .ok (.ireturn, 1) := by decide +kernel
theorem dX10_cancel_31 : decode cX10_cancel 31 = .ok (.aload_n 0, 1) := by decide +kernel
theorem dX10_cancel_32 : decode cX10_cancel 32 = .ok (.getfield 10, 3) := by decide +kernel
theorem dX10_cancel_35 : decode cX10_cancel 35 = .ok (.aload_n 2, 1) := by decide +kernel
theorem dX10_cancel_36 : decode cX10_cancel 36 = .ok (.bipush 6, 2) := by decide +kernel
theorem dX10_cancel_38 : decode cX10_cancel 38 = .ok (.invokevirtual 178, 3) := by decide +kernel
theorem dX10_cancel_41 : decode cX10_cancel 41 = .ok (.aload_n 0, 1) := by decide +kernel
theorem dX10_cancel_42 : decode cX10_cancel 42 = .ok (.bipush 6, 2) := by decide +kernel
theorem dX10_cancel_44 : decode cX10_cancel 44 = .ok (.aload_n 2, 1) := by decide +kernel
theorem dX10_cancel_45 : decode cX10_cancel 45 = .ok (.aconst_null, 1) := by decide +kernel
theorem dX10_cancel_46 : decode cX10_cancel 46 = .ok (.iconst 0, 1) := by decide +kernel
theorem dX10_cancel_47 : decode cX10_cancel 47 = .ok (.invokevirtual 181, 3) := by decide +kernel
theorem dX10_cancel_50 : decode cX10_cancel 50 = .ok (.aload_n 0, 1) := by decide +kernel
theorem dX10_cancel_51 : decode cX10_cancel 51 = .ok (.invokevirtual 185, 3) := by decide +kernel
theorem dX10_cancel_54 : decode cX10_cancel 54 = .ok (.aload_n 0, 1) := by decide +kernel
theorem dX10_cancel_55 : decode cX10_cancel 55 = .ok (.bipush 101, 2) := by decide +kernel
theorem dX10_cancel_57 : decode cX10_cancel 57 = .ok (.invokevirtual 188, 3) := by decide +kernel
theorem dX10_cancel_60 : decode cX10_cancel 60 = .ok (.ireturn, 1) := by decide +kernel
theorem dX10_move_0 : decode cX10_move 0 = .ok (.aload_n 0, 1) := by decide +kernel
theorem dX10_move_1 : decode cX10_move 1 = .ok (.iload_n 1, 1) := by decide +kernel
theorem dX10_move_2 : decode cX10_move 2 = .ok (.invokevirtual 171, 3) := by decide +kernel
theorem dX10_move_5 : decode cX10_move 5 = .ok (.astore_n 3, 1) := by decide +kernel
theorem dX10_move_6 : decode cX10_move 6 = .ok (.aload_n 0, 1) := by decide +kernel
theorem dX10_move_7 : decode cX10_move 7 = .ok (.getfield 10, 3) := by decide +kernel
theorem dX10_move_10 : decode cX10_move 10 = .ok (.iload_n 2, 1) := by decide +kernel
theorem dX10_move_11 : decode cX10_move 11 = .ok (.invokevirtual 133, 3) := by decide +kernel
theorem dX10_move_14 : decode cX10_move 14 = .ok (.astore 4, 2) := by decide +kernel
theorem dX10_move_16 : decode cX10_move 16 = .ok (.aload_n 3, 1) := by decide +kernel
theorem dX10_move_17 : decode cX10_move 17 = .ok (.ifnull 8, 3) := by decide +kernel
theorem dX10_move_20 : decode cX10_move 20 = .ok (.aload 4, 2) := by decide +kernel
theorem dX10_move_22 : decode cX10_move 22 = .ok (.ifnonnull 10, 3) := by decide +kernel
theorem dX10_move_25 : decode cX10_move 25 = .ok (.aload_n 0, 1) := by decide +kernel
theorem dX10_move_26 : decode cX10_move 26 = .ok (.bipush (-2), 2) := by decide +kernel
theorem dX10_move_28 : decode cX10_move 28 = .ok (.invokevirtual 76, 3) := by decide +kernel
theorem dX10_move_31 : decode cX10_move 31 = .ok (.ireturn, 1) := by decide +kernel
theorem dX10_move_32 : decode cX10_move 32 = .ok (.aload_n 3, 1) := by decide +kernel
theorem dX10_move_33 : decode cX10_move 33 = .ok (.invokevirtual 174, 3) := by decide +kernel
theorem dX10_move_36 : decode cX10_move 36 = .ok (.ifCond .eq 20, 3) := by decide +kernel
theorem dX10_move_39 : decode cX10_move 39 = .ok (.aload_n 3, 1) := by decide +kernel
theorem dX10_move_40 : decode cX10_move 40 = .ok (.getfield 191, 3) := by decide +kernel
theorem dX10_move_43 : decode cX10_move 43 = .ok (.aload 4, 2) := by decide +kernel
theorem dX10_move_45 : decode cX10_move 45 = .ok (.if_acmp .eq 11, 3) := by decide +kernel
theorem dX10_move_48 : decode cX10_move 48 = .ok (.aload 4, 2) := by decide +kernel
theorem dX10_move_50 : decode cX10_move 50 = .ok (.getfield 160, 3) := by decide +kernel
theorem dX10_move_53 : decode cX10_move 53 = .ok (.ifCond .eq 10, 3) := by decide +kernel
theorem dX10_move_56 : decode cX10_move 56 = .ok (.aload_n 0, 1) := by decide +kernel
theorem dX10_move_57 : decode cX10_move 57 = .ok (.bipush (-3), 2) := by decide +kernel
theorem dX10_move_59 : decode cX10_move 59 = .ok (.invokevirtual 76, 3) := by decide +kernel
theorem dX10_move_62 : decode cX10_move 62 = .ok (.ireturn, 1) := by decide +kernel
theorem dX10_move_63 : decode cX10_move 63 = .ok (.aload 4, 2) := by decide +kernel
theorem dX10_move_65 : decode cX10_move 65 = .ok (.invokevirtual 195, 3) := by decide +kernel
theorem dX10_move_68 : decode cX10_move 68 = .ok (.ifCond .ne 10, 3) := by decide +kernel
theorem dX10_move_71 : decode cX10_move 71 = .ok (.aload_n 0, 1) := by decide +kernel
theorem dX10_move_72 : decode cX10_move 72 = .ok (.bipush (-4), 2) := by decide +kernel
theorem dX10_move_74 : decode cX10_move 74 = .ok (.invokevirtual 76, 3) := by decide +kernel
theorem dX10_move_77 : decode cX10_move 77 = .ok (.ireturn, 1) := by decide +kernel
theorem dX10_move_78 : decode cX10_move 78 = .ok (.aload_n 0, 1) := by decide +kernel
theorem dX10_move_79 : decode cX10_move 79 = .ok (.getfield 10, 3) := by decide +kernel
theorem dX10_move_82 : decode cX10_move 82 = .ok (.aload_n 3, 1) := by decide +kernel
theorem dX10_move_83 : decode cX10_move 83 = .ok (.aload 4, 2) := by decide +kernel
theorem dX10_move_85 : decode cX10_move 85 = .ok (.invokevirtual 198, 3) := by decide +kernel
theorem dX10_move_88 : decode cX10_move 88 = .ok (.aload_n 0, 1) := by decide +kernel
theorem dX10_move_89 : decode cX10_move 89 = .ok (.bipush 7, 2) := by decide +kernel
theorem dX10_move_91 : decode cX10_move 91 = .ok (.aload_n 3, 1) := by decide +kernel
theorem dX10_move_92 : decode cX10_move 92 = .ok (.aconst_null, 1) := by decide +kernel
theorem dX10_move_93 : decode cX10_move 93 = .ok (.iconst 0, 1) := by decide +kernel
theorem dX10_move_94 : decode cX10_move 94 = .ok (.invokevirtual 181, 3) := by decide +kernel
theorem dX10_move_97 : decode cX10_move 97 = .ok (.iconst 0, 1) := by decide +kernel
theorem dX10_move_98 : decode cX10_move 98 = .ok (.ireturn, 1) := by decide +kernel
theorem dX10_raise_0 : decode cX10_raise 0 = .ok (.aload_n 0, 1) := by decide +kernel
theorem dX10_raise_1 : decode cX10_raise 1 = .ok (.iload_n 1, 1) := by decide +kernel
theorem dX10_raise_2 : decode cX10_raise 2 = .ok (.iload_n 2, 1) := by decide +kernel
theorem dX10_raise_3 : decode cX10_raise 3 = .ok (.invokevirtual 202, 3) := by decide +kernel
theorem dX10_raise_6 : decode cX10_raise 6 = .ok (.istore_n 3, 1) := by decide +kernel
theorem dX10_raise_7 : decode cX10_raise 7 = .ok (.iload_n 3, 1) := by decide +kernel
theorem dX10_raise_8 : decode cX10_raise 8 = .ok (.iconst (-1), 1) := by decide +kernel
theorem dX10_raise_9 : decode cX10_raise 9 = .ok (.if_icmp .ge 12, 3) := by decide +kernel
theorem dX10_raise_12 : decode cX10_raise 12 = .ok (.aload_n 0, 1) := by decide +kernel
theorem dX10_raise_13 : decode cX10_raise 13 = .ok (.iload_n 3, 1) := by decide +kernel
theorem dX10_raise_14 : decode cX10_raise 14 = .ok (.invokevirtual 76, 3) := by decide +kernel
theorem dX10_raise_17 : decode cX10_raise 17 = .ok (.i2l, 1) := by decide +kernel
theorem dX10_raise_18 : decode cX10_raise 18 = .ok (.goto 9, 3) := by decide +kernel
theorem dX10_raise_21 : decode cX10_raise 21 = .ok (.aload_n 0, 1) := by decide +kernel
theorem dX10_raise_22 : decode cX10_raise 22 = .ok (.iload_n 1, 1) := by decide +kernel
theorem dX10_raise_23 : decode cX10_raise 23 = .ok (.invokevirtual 206, 3) := by decide +kernel
theorem dX10_raise_26 : decode cX10_raise 26 = .ok (.i2l, 1) := by decide +kernel
theorem dX10_raise_27 : decode cX10_raise 27 = .ok (.lreturn, 1) := by decide +kernel
theorem dX10_again_0 : decode cX10_again 0 = .ok (.aload_n 0, 1) := by decide +kernel
theorem dX10_again_1 : decode cX10_again 1 = .ok (.iload_n 1, 1) := by decide +kernel
theorem dX10_again_2 : decode cX10_again 2 = .ok (.invokevirtual 171, 3) := by decide +kernel
theorem dX10_again_5 : decode cX10_again 5 = .ok (.astore_n 2, 1) := by decide +kernel
theorem dX10_again_6 : decode cX10_again 6 = .ok (.aload_n 2, 1) := by decide +kernel
theorem dX10_again_7 : decode cX10_again 7 = .ok (.ifnonnull 10, 3) := by decide +kernel
theorem dX10_again_10 : decode cX10_again 10 = .ok (.aload_n 0, 1) := by decide +kernel
theorem dX10_again_11 : decode cX10_again 11 = .ok (.bipush (-2), 2) := by decide +kernel
theorem dX10_again_13 : decode cX10_again 13 = .ok (.invokevirtual 76, 3) := by decide +kernel
theorem dX10_again_16 : decode cX10_again 16 = .ok (.ireturn, 1) := by decide +kernel
theorem dX10_again_17 : decode cX10_again 17 = .ok (.aload_n 0, 1) := by decide +kernel
theorem dX10_again_18 : decode cX10_again 18 = .ok (.aload_n 2, 1) := by decide +kernel
theorem dX10_again_19 : decode cX10_again 19 = .ok (.invokevirtual 209, 3) := by decide +kernel
theorem dX10_again_22 : decode cX10_again 22 = .ok (.istore_n 3, 1) := by decide +kernel
theorem dX10_again_23 : decode cX10_again 23 = .ok (.iload_n 3, 1) := by decide +kernel
theorem dX10_again_24 : decode cX10_again 24 = .ok (.iconst (-1), 1) := by decide +kernel
theorem dX10_again_25 : decode cX10_again 25 = .ok (.if_icmp .ge 9, 3) := by decide +kernel
theorem dX10_again_28 : decode cX10_again 28 = .ok (.aload_n 0, 1) := by decide +kernel
theorem dX10_again_29 : decode cX10_again 29 = .ok (.iload_n 3, 1) := by decide +kernel
theorem dX10_again_30 : decode cX10_again 30 = .ok (.invokevirtual 76, 3) := by decide +kernel
theorem dX10_again_33 : decode cX10_again 33 = .ok (.ireturn, 1) := by decide +kernel
theorem dX10_again_34 : decode cX10_again 34 = .ok (.aload_n 0, 1) := by decide +kernel
theorem dX10_again_35 : decode cX10_again 35 = .ok (.getfield 32, 3) := by decide +kernel
theorem dX10_again_38 : decode cX10_again 38 = .ok (.aload_n 2, 1) := by decide +kernel
theorem dX10_again_39 : decode cX10_again 39 = .ok (.invokevirtual 213, 3) := by decide +kernel
theorem dX10_again_42 : decode cX10_again 42 = .ok (.aload_n 2, 1) := by decide +kernel
theorem dX10_again_43 : decode cX10_again 43 = .ok (.iconst 0, 1) := by decide +kernel
theorem dX10_again_44 : decode cX10_again 44 = .ok (.putfield 216, 3) := by decide +kernel
theorem dX10_again_47 : decode cX10_again 47 = .ok (.aload_n 0, 1) := by decide +kernel
theorem dX10_again_48 : decode cX10_again 48 = .ok (.bipush 8, 2) := by decide +kernel
theorem dX10_again_50 : decode cX10_again 50 = .ok (.aload_n 2, 1) := by decide +kernel
theorem dX10_again_51 : decode cX10_again 51 = .ok (.aconst_null, 1) := by decide +kernel
theorem dX10_again_52 : decode cX10_again 52 = .ok (.iconst 0, 1) := by decide +kernel
theorem dX10_again_53 : decode cX10_again 53 = .ok (.invokevirtual 181, 3) := by decide +kernel
theorem dX10_again_56 : decode cX10_again 56 = .ok (.aload_n 0, 1) := by decide +kernel
theorem dX10_again_57 : decode cX10_again 57 = .ok (.getfield 10, 3) := by decide +kernel
theorem dX10_again_60 : decode cX10_again 60 = .ok (.aload_n 2, 1) := by decide +kernel
theorem dX10_again_61 : decode cX10_again 61 = .ok (.invokevirtual 219, 3) := by decide +kernel
theorem dX10_again_64 : decode cX10_again 64 = .ok (.aload_n 2, 1) := by decide +kernel
theorem dX10_again_65 : decode cX10_again 65 = .ok (.getfield 105, 3) := by decide +kernel
theorem dX10_again_68 : decode cX10_again 68 = .ok (.iconst 1, 1) := by decide +kernel
theorem dX10_again_69 : decode cX10_again 69 = .ok (.if_icmp .ne 7, 3) := by decide +kernel
theorem dX10_again_72 : decode cX10_again 72 = .ok (.iconst 1, 1) := by decide +kernel
theorem dX10_again_73 : decode cX10_again 73 = .ok (.goto 4, 3) := by decide +kernel
theorem dX10_again_76 : decode cX10_again 76 = .ok (.iconst 0, 1) := by decide +kernel
theorem dX10_again_77 : decode cX10_again 77 = .ok (.ireturn, 1) := by decide +kernel
theorem dX10_discard_0 : decode cX10_discard 0 = .ok (.aload_n 0, 1) := by decide +kernel
theorem dX10_discard_1 : decode cX10_discard 1 = .ok (.iload_n 1, 1) := by decide +kernel
theorem dX10_discard_2 : decode cX10_discard 2 = .ok (.invokevirtual 171, 3) := by decide +kernel
theorem dX10_discard_5 : decode cX10_discard 5 = .ok (.astore_n 2, 1) := by decide +kernel
theorem dX10_discard_6 : decode cX10_discard 6 = .ok (.aload_n 2, 1) := by decide +kernel
theorem dX10_discard_7 : decode cX10_discard 7 = .ok (.ifnonnull 10, 3) := by decide +kernel
theorem dX10_discard_10 : decode cX10_discard 10 = .ok (.aload_n 0, 1) := by decide +kernel
theorem dX10_discard_11 : decode cX10_discard 11 = .ok (.bipush (-2), 2) := by decide +kernel
theorem dX10_discard_13 : decode cX10_discard 13 = .ok (.invokevirtual 76, 3) := by decide +kernel
theorem dX10_discard_16 : decode cX10_discard 16 = .ok (.ireturn, 1) := by decide +kernel
theorem dX10_discard_17 : decode cX10_discard 17 = .ok (.aload_n 2, 1) := by decide +kernel
theorem dX10_discard_18 : decode cX10_discard 18 = .ok (.getfield 105, 3) := by decide +kernel
theorem dX10_discard_21 : decode cX10_discard 21 = .ok (.iconst 5, 1) := by decide +kernel
theorem dX10_discard_22 : decode cX10_discard 22 = .ok (.if_icmp .eq 10, 3) := by decide +kernel
theorem dX10_discard_25 : decode cX10_discard 25 = .ok (.aload_n 0, 1) := by decide +kernel
theorem dX10_discard_26 : decode cX10_discard 26 = .ok (.bipush (-3), 2) := by decide +kernel
theorem dX10_discard_28 : decode cX10_discard 28 = .ok (.invokevirtual 76, 3) := by decide +kernel
theorem dX10_discard_31 : decode cX10_discard 31 = .ok (.ireturn, 1) := by decide +kernel
theorem dX10_discard_32 : decode cX10_discard 32 = .ok (.aload_n 0, 1) := by decide +kernel
theorem dX10_discard_33 : decode cX10_discard 33 = .ok (.getfield 32, 3) := by decide +kernel
theorem dX10_discard_36 : decode cX10_discard 36 = .ok (.aload_n 2, 1) := by decide +kernel
theorem dX10_discard_37 : decode cX10_discard 37 = .ok (.invokevirtual 213, 3) := by decide +kernel
theorem dX10_discard_40 : decode cX10_discard 40 = .ok (.aload_n 0, 1) := by decide +kernel
theorem dX10_discard_41 : decode cX10_discard 41 = .ok (.getfield 10, 3) := by decide +kernel
theorem dX10_discard_44 : decode cX10_discard 44 = .ok (.aload_n 2, 1) := by decide +kernel
theorem dX10_discard_45 : decode cX10_discard 45 = .ok (.bipush 6, 2) := by decide +kernel
theorem dX10_discard_47 : decode cX10_discard 47 = .ok (.invokevirtual 178, 3) := by decide +kernel
theorem dX10_discard_50 : decode cX10_discard 50 = .ok (.aload_n 0, 1) := by decide +kernel
theorem dX10_discard_51 : decode cX10_discard 51 = .ok (.bipush 6, 2) := by decide +kernel
theorem dX10_discard_53 : decode cX10_discard 53 = .ok (.aload_n 2, 1) := by decide +kernel
theorem dX10_discard_54 : decode cX10_discard 54 = .ok (.aconst_null, 1) := by decide +kernel
theorem dX10_discard_55 : decode cX10_discard 55 = .ok (.iconst 0, 1) := by decide +kernel
theorem dX10_discard_56 : decode cX10_discard 56 = .ok (.invokevirtual 181, 3) := by decide +kernel
theorem dX10_discard_59 : decode cX10_discard 59 = .ok (.aload_n 0, 1) := by decide +kernel
theorem dX10_discard_60 : decode cX10_discard 60 = .ok (.getfield 32, 3) := by decide +kernel
theorem dX10_discard_63 : decode cX10_discard 63 = .ok (.getfield 222, 3) := by decide +kernel
theorem dX10_discard_66 : decode cX10_discard 66 = .ok (.ireturn, 1) := by decide +kernel
theorem dX10_arrange_0 : decode cX10_arrange 0 = .ok (.aload_n 0, 1) := by decide +kernel
theorem dX10_arrange_1 : decode cX10_arrange 1 = .ok (.getfield 10, 3) := by decide +kernel
theorem dX10_arrange_4 : decode cX10_arrange 4 = .ok (.iload_n 1, 1) := by decide +kernel
theorem dX10_arrange_5 : decode cX10_arrange 5 = .ok (.invokevirtual 133, 3) := by decide +kernel
theorem dX10_arrange_8 : decode cX10_arrange 8 = .ok (.astore 4, 2) := by decide +kernel
theorem dX10_arrange_10 : decode cX10_arrange 10 = .ok (.aload 4, 2) := by decide +kernel
theorem dX10_arrange_12 : decode cX10_arrange 12 = .ok (.ifnull 29, 3) := by decide +kernel
theorem dX10_arrange_15 : decode cX10_arrange 15 = .ok (.iload_n 2, 1) := by decide +kernel
theorem dX10_arrange_16 : decode cX10_arrange 16 = .ok (.ifCond .lt 25, 3) := by decide +kernel
theorem dX10_arrange_19 : decode cX10_arrange 19 = .ok (.iload_n 2, 1) := by decide +kernel
theorem dX10_arrange_20 : decode cX10_arrange 20 = .ok (.getstatic 225, 3) := by decide +kernel
theorem dX10_arrange_23 : decode cX10_arrange 23 = .ok (.arraylength, 1) := by decide +kernel
theorem dX10_arrange_24 : decode cX10_arrange 24 = .ok (.if_icmp .ge 17, 3) := by decide +kernel
theorem dX10_arrange_27 : decode cX10_arrange 27 = .ok (.iload_n 3, 1) := by decide +kernel
theorem dX10_arrange_28 : decode cX10_arrange 28 = .ok (.iconst 1, 1) := by decide +kernel
theorem dX10_arrange_29 : decode cX10_arrange 29 = .ok (.if_icmp .lt 12, 3) := by decide +kernel
theorem dX10_arrange_32 : decode cX10_arrange 32 = .ok (.iload_n 3, 1) := by decide +kernel
theorem dX10_arrange_33 : decode cX10_arrange 33 = .ok (.getstatic 225, 3) := by decide +kernel
theorem dX10_arrange_36 : decode cX10_arrange 36 = .ok (.iload_n 2, 1) := by decide +kernel
theorem dX10_arrange_37 : decode cX10_arrange 37 = .ok (.iaload, 1) := by decide +kernel
theorem dX10_arrange_38 : decode cX10_arrange 38 = .ok (.if_icmp .le 10, 3) := by decide +kernel
theorem dX10_arrange_41 : decode cX10_arrange 41 = .ok (.aload_n 0, 1) := by decide +kernel
theorem dX10_arrange_42 : decode cX10_arrange 42 = .ok (.bipush (-2), 2) := by decide +kernel
theorem dX10_arrange_44 : decode cX10_arrange 44 = .ok (.invokevirtual 76, 3) := by decide +kernel
theorem dX10_arrange_47 : decode cX10_arrange 47 = .ok (.ireturn, 1) := by decide +kernel
theorem dX10_arrange_48 : decode cX10_arrange 48 = .ok (.aload 4, 2) := by decide +kernel
theorem dX10_arrange_50 : decode cX10_arrange 50 = .ok (.iload_n 2, 1) := by decide +kernel
theorem dX10_arrange_51 : decode cX10_arrange 51 = .ok (.iload_n 3, 1) := by decide +kernel
theorem dX10_arrange_52 : decode cX10_arrange 52 = .ok (.invokevirtual 228, 3) := by decide +kernel
theorem dX10_arrange_55 : decode cX10_arrange 55 = .ok (.ireturn, 1) := by decide +kernel
theorem dX10_rule_0 : decode cX10_rule 0 = .ok (.iload_n 1, 1) := by decide +kernel
theorem dX10_rule_1 : decode cX10_rule 1 = .ok (.ifCond .lt 25, 3) := by decide +kernel
theorem dX10_rule_4 : decode cX10_rule 4 = .ok (.iload_n 1, 1) := by decide +kernel
theorem dX10_rule_5 : decode cX10_rule 5 = .ok (.getstatic 231, 3) := by decide +kernel
theorem dX10_rule_8 : decode cX10_rule 8 = .ok (.arraylength, 1) := by decide +kernel
theorem dX10_rule_9 : decode cX10_rule 9 = .ok (.if_icmp .ge 17, 3) := by decide +kernel
theorem dX10_rule_12 : decode cX10_rule 12 = .ok (.iload_n 2, 1) := by decide +kernel
theorem dX10_rule_13 : decode cX10_rule 13 = .ok (.iconst 1, 1) := by decide +kernel
theorem dX10_rule_14 : decode cX10_rule 14 = .ok (.if_icmp .lt 12, 3) := by decide +kernel
theorem dX10_rule_17 : decode cX10_rule 17 = .ok (.iload_n 2, 1) := by decide +kernel
theorem dX10_rule_18 : decode cX10_rule 18 = .ok (.getstatic 231, 3) := by decide +kernel
theorem dX10_rule_21 : decode cX10_rule 21 = .ok (.iload_n 1, 1) := by decide +kernel
theorem dX10_rule_22 : decode cX10_rule 22 = .ok (.iaload, 1) := by decide +kernel
theorem dX10_rule_23 : decode cX10_rule 23 = .ok (.if_icmp .le 10, 3) := by decide +kernel
theorem dX10_rule_26 : decode cX10_rule 26 = .ok (.aload_n 0, 1) := by decide +kernel
theorem dX10_rule_27 : decode cX10_rule 27 = .ok (.bipush (-2), 2) := by decide +kernel
theorem dX10_rule_29 : decode cX10_rule 29 = .ok (.invokevirtual 76, 3) := by decide +kernel
theorem dX10_rule_32 : decode cX10_rule 32 = .ok (.ireturn, 1) := by decide +kernel
theorem dX10_rule_33 : decode cX10_rule 33 = .ok (.aload_n 0, 1) := by decide +kernel
theorem dX10_rule_34 : decode cX10_rule 34 = .ok (.getfield 10, 3) := by decide +kernel
theorem dX10_rule_37 : decode cX10_rule 37 = .ok (.getfield 111, 3) := by decide +kernel
theorem dX10_rule_40 : decode cX10_rule 40 = .ok (.iload_n 1, 1) := by decide +kernel
theorem dX10_rule_41 : decode cX10_rule 41 = .ok (.iaload, 1) := by decide +kernel
theorem dX10_rule_42 : decode cX10_rule 42 = .ok (.istore_n 3, 1) := by decide +kernel
theorem dX10_rule_43 : decode cX10_rule 43 = .ok (.aload_n 0, 1) := by decide +kernel
theorem dX10_rule_44 : decode cX10_rule 44 = .ok (.getfield 10, 3) := by decide +kernel
theorem dX10_rule_47 : decode cX10_rule 47 = .ok (.getfield 111, 3) := by decide +kernel
theorem dX10_rule_50 : decode cX10_rule 50 = .ok (.iload_n 1, 1) := by decide +kernel
theorem dX10_rule_51 : decode cX10_rule 51 = .ok (.iload_n 2, 1) := by decide +kernel
theorem dX10_rule_52 : decode cX10_rule 52 = .ok (.iastore, 1) := by decide +kernel
theorem dX10_rule_53 : decode cX10_rule 53 = .ok (.iload_n 3, 1) := by decide +kernel
theorem dX10_rule_54 : decode cX10_rule 54 = .ok (.ireturn, 1) := by decide +kernel
theorem dX10_pardon_0 : decode cX10_pardon 0 = .ok (.iload_n 1, 1) := by decide +kernel
theorem dX10_pardon_1 : decode cX10_pardon 1 = .ok (.invokestatic 234, 3) := by decide +kernel
theorem dX10_pardon_4 : decode cX10_pardon 4 = .ok (.ifCond .ne 10, 3) := by decide +kernel
theorem dX10_pardon_7 : decode cX10_pardon 7 = .ok (.aload_n 0, 1) := by decide +kernel
theorem dX10_pardon_8 : decode cX10_pardon 8 = .ok (.bipush (-2), 2) := by decide +kernel
theorem dX10_pardon_10 : decode cX10_pardon 10 = .ok (.invokevirtual 76, 3) := by decide +kernel
theorem dX10_pardon_13 : decode cX10_pardon 13 = .ok (.ireturn, 1) := by decide +kernel
theorem dX10_pardon_14 : decode cX10_pardon 14 = .ok (.aload_n 0, 1) := by decide +kernel
theorem dX10_pardon_15 : decode cX10_pardon 15 = .ok (.getfield 54, 3) := by decide +kernel
theorem dX10_pardon_18 : decode cX10_pardon 18 = .ok (.iload_n 1, 1) := by decide +kernel
theorem dX10_pardon_19 : decode cX10_pardon 19 = .ok (.invokevirtual 238, 3) := by decide +kernel
theorem dX10_pardon_22 : decode cX10_pardon 22 = .ok (.istore_n 2, 1) := by decide +kernel
theorem dX10_pardon_23 : decode cX10_pardon 23 = .ok (.iload_n 2, 1) := by decide +kernel
theorem dX10_pardon_24 : decode cX10_pardon 24 = .ok (.ifCond .ne 10, 3) := by decide +kernel
theorem dX10_pardon_27 : decode cX10_pardon 27 = .ok (.aload_n 0, 1) := by decide +kernel
theorem dX10_pardon_28 : decode cX10_pardon 28 = .ok (.bipush (-3), 2) := by decide +kernel
theorem dX10_pardon_30 : decode cX10_pardon 30 = .ok (.invokevirtual 76, 3) := by decide +kernel
theorem dX10_pardon_33 : decode cX10_pardon 33 = .ok (.ireturn, 1) := by decide +kernel
theorem dX10_pardon_34 : decode cX10_pardon 34 = .ok (.aload_n 0, 1) := by decide +kernel
theorem dX10_pardon_35 : decode cX10_pardon 35 = .ok (.getfield 54, 3) := by decide +kernel
theorem dX10_pardon_38 : decode cX10_pardon 38 = .ok (.iload_n 1, 1) := by decide +kernel
theorem dX10_pardon_39 : decode cX10_pardon 39 = .ok (.invokevirtual 241, 3) := by decide +kernel
theorem dX10_pardon_42 : decode cX10_pardon 42 = .ok (.iload_n 2, 1) := by decide +kernel
theorem dX10_pardon_43 : decode cX10_pardon 43 = .ok (.ireturn, 1) := by decide +kernel
theorem dX10_steps_0 : decode cX10_steps 0 = .ok (.iload_n 1, 1) := by decide +kernel
theorem dX10_steps_1 : decode cX10_steps 1 = .ok (.ifCond .lt 14, 3) := by decide +kernel
theorem dX10_steps_4 : decode cX10_steps 4 = .ok (.iload_n 2, 1) := by decide +kernel
theorem dX10_steps_5 : decode cX10_steps 5 = .ok (.iconst 1, 1) := by decide +kernel
theorem dX10_steps_6 : decode cX10_steps 6 = .ok (.if_icmp .lt 9, 3) := by decide +kernel
theorem dX10_steps_9 : decode cX10_steps 9 = .ok (.iload_n 2, 1) := by decide +kernel
theorem dX10_steps_10 : decode cX10_steps 10 = .ok (.bipush 60, 2) := by decide +kernel
theorem dX10_steps_12 : decode cX10_steps 12 = .ok (.if_icmp .le 10, 3) := by decide +kernel
theorem dX10_steps_15 : decode cX10_steps 15 = .ok (.aload_n 0, 1) := by decide +kernel
theorem dX10_steps_16 : decode cX10_steps 16 = .ok (.bipush (-2), 2) := by decide +kernel
theorem dX10_steps_18 : decode cX10_steps 18 = .ok (.invokevirtual 76, 3) := by decide +kernel
theorem dX10_steps_21 : decode cX10_steps 21 = .ok (.ireturn, 1) := by decide +kernel
theorem dX10_steps_22 : decode cX10_steps 22 = .ok (.aload_n 0, 1) := by decide +kernel
theorem dX10_steps_23 : decode cX10_steps 23 = .ok (.getfield 68, 3) := by decide +kernel
theorem dX10_steps_26 : decode cX10_steps 26 = .ok (.iload_n 1, 1) := by decide +kernel
theorem dX10_steps_27 : decode cX10_steps 27 = .ok (.i2l, 1) := by decide +kernel
theorem dX10_steps_28 : decode cX10_steps 28 = .ok (.putfield 244, 3) := by decide +kernel
theorem dX10_steps_31 : decode cX10_steps 31 = .ok (.iconst 0, 1) := by decide +kernel
theorem dX10_steps_32 : decode cX10_steps 32 = .ok (.istore_n 3, 1) := by decide +kernel
theorem dX10_steps_33 : decode cX10_steps 33 = .ok (.iconst 0, 1) := by decide +kernel
theorem dX10_steps_34 : decode cX10_steps 34 = .ok (.istore 4, 2) := by decide +kernel
theorem dX10_steps_36 : decode cX10_steps 36 = .ok (.iload 4, 2) := by decide +kernel
theorem dX10_steps_38 : decode cX10_steps 38 = .ok (.iload_n 2, 1) := by decide +kernel
theorem dX10_steps_39 : decode cX10_steps 39 = .ok (.if_icmp .ge 19, 3) := by decide +kernel
theorem dX10_steps_42 : decode cX10_steps 42 = .ok (.aload_n 0, 1) := by decide +kernel
theorem dX10_steps_43 : decode cX10_steps 43 = .ok (.invokevirtual 248, 3) := by decide +kernel
theorem dX10_steps_46 : decode cX10_steps 46 = .ok (.ifCond .eq 6, 3) := by decide +kernel
theorem dX10_steps_49 : decode cX10_steps 49 = .ok (.iinc 3 1, 3) := by decide +kernel
theorem dX10_steps_52 : decode cX10_steps 52 = .ok (.iinc 4 1, 3) := by decide +kernel
theorem dX10_steps_55 : decode cX10_steps 55 = .ok (.goto (-19), 3) := by decide +kernel
theorem dX10_steps_58 : decode cX10_steps 58 = .ok (.iload_n 3, 1) := by decide +kernel
theorem dX10_steps_59 : decode cX10_steps 59 = .ok (.ireturn, 1) := by decide +kernel
theorem dX10_store_0 : decode cX10_store 0 = .ok (.iload_n 1, 1) := by decide +kernel
theorem dX10_store_1 : decode cX10_store 1 = .ok (.iconst 1, 1) := by decide +kernel
theorem dX10_store_2 : decode cX10_store 2 = .ok (.if_icmp .lt 21, 3) := by decide +kernel
theorem dX10_store_5 : decode cX10_store 5 = .ok (.iload_n 1, 1) := by decide +kernel
theorem dX10_store_6 : decode cX10_store 6 = .ok (.bipush 7, 2) := by decide +kernel
theorem dX10_store_8 : decode cX10_store 8 = .ok (.if_icmp .gt 15, 3) := by decide +kernel
theorem dX10_store_11 : decode cX10_store 11 = .ok (.aload_n 0, 1) := by decide +kernel
theorem dX10_store_12 : decode cX10_store 12 = .ok (.getfield 10, 3) := by decide +kernel
theorem dX10_store_15 : decode cX10_store 15 = .ok (.getfield 251, 3) := by decide +kernel
theorem dX10_store_18 : decode cX10_store 18 = .ok (.iload_n 1, 1) := by decide +kernel
theorem dX10_store_19 : decode cX10_store 19 = .ok (.iconst 1, 1) := by decide +kernel
theorem dX10_store_20 : decode cX10_store 20 = .ok (.isub, 1) := by decide +kernel
theorem dX10_store_21 : decode cX10_store 21 = .ok (.iaload, 1) := by decide +kernel
theorem dX10_store_22 : decode cX10_store 22 = .ok (.ireturn, 1) := by decide +kernel
theorem dX10_store_23 : decode cX10_store 23 = .ok (.iload_n 1, 1) := by decide +kernel
theorem dX10_store_24 : decode cX10_store 24 = .ok (.bipush 13, 2) := by decide +kernel
theorem dX10_store_26 : decode cX10_store 26 = .ok (.if_icmp .lt 27, 3) := by decide +kernel
theorem dX10_store_29 : decode cX10_store 29 = .ok (.iload_n 1, 1) := by decide +kernel
theorem dX10_store_30 : decode cX10_store 30 = .ok (.bipush 13, 2) := by decide +kernel
theorem dX10_store_32 : decode cX10_store 32 = .ok (.getstatic 231, 3) := by decide +kernel
theorem dX10_store_35 : decode cX10_store 35 = .ok (.arraylength, 1) := by decide +kernel
theorem dX10_store_36 : decode cX10_store 36 = .ok (.iadd, 1) := by decide +kernel
theorem dX10_store_37 : decode cX10_store 37 = .ok (.if_icmp .ge 16, 3) := by decide +kernel
theorem dX10_store_40 : decode cX10_store 40 = .ok (.aload_n 0, 1) := by decide +kernel
theorem dX10_store_41 : decode cX10_store 41 = .ok (.getfield 10, 3) := by decide +kernel
theorem dX10_store_44 : decode cX10_store 44 = .ok (.getfield 111, 3) := by decide +kernel
theorem dX10_store_47 : decode cX10_store 47 = .ok (.iload_n 1, 1) := by decide +kernel
theorem dX10_store_48 : decode cX10_store 48 = .ok (.bipush 13, 2) := by decide +kernel
theorem dX10_store_50 : decode cX10_store 50 = .ok (.isub, 1) := by decide +kernel
theorem dX10_store_51 : decode cX10_store 51 = .ok (.iaload, 1) := by decide +kernel
theorem dX10_store_52 : decode cX10_store 52 = .ok (.ireturn, 1) := by decide +kernel
theorem dX10_store_53 : decode cX10_store 53 = .ok (.iload_n 1, 1) := by decide +kernel
theorem dX10_store_54 : decode cX10_store 54 = .ok (.tableswitch 108 0 12 #[66, 108, 108, 108, 108, 108, 108, 108, 71, 79, 90, 95, 100], 66) := by decide +kernel
theorem dX10_store_120 : decode cX10_store 120 = .ok (.aload_n 0, 1) := by decide +kernel
theorem dX10_store_121 : decode cX10_store 121 = .ok (.getfield 108, 3) := by decide +kernel
theorem dX10_store_124 : decode cX10_store 124 = .ok (.ireturn, 1) := by decide +kernel
theorem dX10_store_125 : decode cX10_store 125 = .ok (.aload_n 0, 1) := by decide +kernel
theorem dX10_store_126 : decode cX10_store 126 = .ok (.getfield 28, 3) := by decide +kernel
theorem dX10_store_129 : decode cX10_store 129 = .ok (.getfield 222, 3) := by decide +kernel
theorem dX10_store_132 : decode cX10_store 132 = .ok (.ireturn, 1) := by decide +kernel
theorem dX10_store_133 : decode cX10_store 133 = .ok (.aload_n 0, 1) := by decide +kernel
theorem dX10_store_134 : decode cX10_store 134 = .ok (.getfield 10, 3) := by decide +kernel
theorem dX10_store_137 : decode cX10_store 137 = .ok (.getfield 254, 3) := by decide +kernel
theorem dX10_store_140 : decode cX10_store 140 = .ok (.getfield 222, 3) := by decide +kernel
theorem dX10_store_143 : decode cX10_store 143 = .ok (.ireturn, 1) := by decide +kernel
theorem dX10_store_144 : decode cX10_store 144 = .ok (.aload_n 0, 1) := by decide +kernel
theorem dX10_store_145 : decode cX10_store 145 = .ok (.getfield 256, 3) := by decide +kernel
theorem dX10_store_148 : decode cX10_store 148 = .ok (.ireturn, 1) := by decide +kernel
theorem dX10_store_149 : decode cX10_store 149 = .ok (.aload_n 0, 1) := by decide +kernel
theorem dX10_store_150 : decode cX10_store 150 = .ok (.getfield 259, 3) := by decide +kernel
theorem dX10_store_153 : decode cX10_store 153 = .ok (.ireturn, 1) := by decide +kernel
theorem dX10_store_154 : decode cX10_store 154 = .ok (.aload_n 0, 1) := by decide +kernel
theorem dX10_store_155 : decode cX10_store 155 = .ok (.getfield 10, 3) := by decide +kernel
theorem dX10_store_158 : decode cX10_store 158 = .ok (.invokevirtual 262, 3) := by decide +kernel
theorem dX10_store_161 : decode cX10_store 161 = .ok (.ireturn, 1) := by decide +kernel
theorem dX10_store_162 : decode cX10_store 162 = .ok (.iconst (-1), 1) := by decide +kernel
theorem dX10_store_163 : decode cX10_store 163 = .ok (.ireturn, 1) := by decide +kernel
theorem dX10_lane_0 : decode cX10_lane 0 = .ok (.aload_n 0, 1) := by decide +kernel
theorem dX10_lane_1 : decode cX10_lane 1 = .ok (.getfield 10, 3) := by decide +kernel
theorem dX10_lane_4 : decode cX10_lane 4 = .ok (.iload_n 1, 1) := by decide +kernel
theorem dX10_lane_5 : decode cX10_lane 5 = .ok (.invokevirtual 133, 3) := by decide +kernel
theorem dX10_lane_8 : decode cX10_lane 8 = .ok (.astore_n 3, 1) := by decide +kernel
theorem dX10_lane_9 : decode cX10_lane 9 = .ok (.aload_n 3, 1) := by decide +kernel
theorem dX10_lane_10 : decode cX10_lane 10 = .ok (.ifnonnull 7, 3) := by decide +kernel
theorem dX10_lane_13 : decode cX10_lane 13 = .ok (.iconst (-1), 1) := by decide +kernel
theorem dX10_lane_14 : decode cX10_lane 14 = .ok (.goto 8, 3) := by decide +kernel
theorem dX10_lane_17 : decode cX10_lane 17 = .ok (.aload_n 3, 1) := by decide +kernel
theorem dX10_lane_18 : decode cX10_lane 18 = .ok (.iload_n 2, 1) := by decide +kernel
theorem dX10_lane_19 : decode cX10_lane 19 = .ok (.invokevirtual 266, 3) := by decide +kernel
theorem dX10_lane_22 : decode cX10_lane 22 = .ok (.ireturn, 1) := by decide +kernel
theorem dX10_task_0 : decode cX10_task 0 = .ok (.aload_n 0, 1) := by decide +kernel
theorem dX10_task_1 : decode cX10_task 1 = .ok (.iload_n 1, 1) := by decide +kernel
theorem dX10_task_2 : decode cX10_task 2 = .ok (.invokevirtual 171, 3) := by decide +kernel
theorem dX10_task_5 : decode cX10_task 5 = .ok (.astore_n 3, 1) := by decide +kernel
theorem dX10_task_6 : decode cX10_task 6 = .ok (.aload_n 3, 1) := by decide +kernel
theorem dX10_task_7 : decode cX10_task 7 = .ok (.ifnonnull 7, 3) := by decide +kernel
theorem dX10_task_10 : decode cX10_task 10 = .ok (.iconst (-1), 1) := by decide +kernel
theorem dX10_task_11 : decode cX10_task 11 = .ok (.goto 8, 3) := by decide +kernel
theorem dX10_task_14 : decode cX10_task 14 = .ok (.aload_n 3, 1) := by decide +kernel
theorem dX10_task_15 : decode cX10_task 15 = .ok (.iload_n 2, 1) := by decide +kernel
theorem dX10_task_16 : decode cX10_task 16 = .ok (.invokevirtual 269, 3) := by decide +kernel
theorem dX10_task_19 : decode cX10_task 19 = .ok (.ireturn, 1) := by decide +kernel
theorem dX10_rank_0 : decode cX10_rank 0 = .ok (.aload_n 0, 1) := by decide +kernel
theorem dX10_rank_1 : decode cX10_rank 1 = .ok (.iload_n 1, 1) := by decide +kernel
theorem dX10_rank_2 : decode cX10_rank 2 = .ok (.invokevirtual 171, 3) := by decide +kernel
theorem dX10_rank_5 : decode cX10_rank 5 = .ok (.astore_n 2, 1) := by decide +kernel
theorem dX10_rank_6 : decode cX10_rank 6 = .ok (.aload_n 2, 1) := by decide +kernel
theorem dX10_rank_7 : decode cX10_rank 7 = .ok (.ifnonnull 9, 3) := by decide +kernel
theorem dX10_rank_10 : decode cX10_rank 10 = .ok (.ldc_w 270, 3) := by decide +kernel
theorem dX10_rank_13 : decode cX10_rank 13 = .ok (.goto 16, 3) := by decide +kernel
theorem dX10_rank_16 : decode cX10_rank 16 = .ok (.aload_n 2, 1) := by decide +kernel
theorem dX10_rank_17 : decode cX10_rank 17 = .ok (.aload_n 0, 1) := by decide +kernel
theorem dX10_rank_18 : decode cX10_rank 18 = .ok (.getfield 10, 3) := by decide +kernel
theorem dX10_rank_21 : decode cX10_rank 21 = .ok (.getfield 111, 3) := by decide +kernel
theorem dX10_rank_24 : decode cX10_rank 24 = .ok (.iconst 0, 1) := by decide +kernel
theorem dX10_rank_25 : decode cX10_rank 25 = .ok (.iaload, 1) := by decide +kernel
theorem dX10_rank_26 : decode cX10_rank 26 = .ok (.invokevirtual 271, 3) := by decide +kernel
theorem dX10_rank_29 : decode cX10_rank 29 = .ok (.ireturn, 1) := by decide +kernel
theorem dX10_cause_0 : decode cX10_cause 0 = .ok (.aload_n 0, 1) := by decide +kernel
theorem dX10_cause_1 : decode cX10_cause 1 = .ok (.iload_n 1, 1) := by decide +kernel
theorem dX10_cause_2 : decode cX10_cause 2 = .ok (.invokevirtual 171, 3) := by decide +kernel
theorem dX10_cause_5 : decode cX10_cause 5 = .ok (.astore_n 3, 1) := by decide +kernel
theorem dX10_cause_6 : decode cX10_cause 6 = .ok (.aload_n 3, 1) := by decide +kernel
theorem dX10_cause_7 : decode cX10_cause 7 = .ok (.ifnonnull 7, 3) := by decide +kernel
theorem dX10_cause_10 : decode cX10_cause 10 = .ok (.iconst (-1), 1) := by decide +kernel
theorem dX10_cause_11 : decode cX10_cause 11 = .ok (.goto 8, 3) := by decide +kernel
theorem dX10_cause_14 : decode cX10_cause 14 = .ok (.aload_n 3, 1) := by decide +kernel
theorem dX10_cause_15 : decode cX10_cause 15 = .ok (.iload_n 2, 1) := by decide +kernel
theorem dX10_cause_16 : decode cX10_cause 16 = .ok (.invokevirtual 274, 3) := by decide +kernel
theorem dX10_cause_19 : decode cX10_cause 19 = .ok (.ireturn, 1) := by decide +kernel
theorem dX10_worker_0 : decode cX10_worker 0 = .ok (.aload_n 0, 1) := by decide +kernel
theorem dX10_worker_1 : decode cX10_worker 1 = .ok (.iload_n 1, 1) := by decide +kernel
theorem dX10_worker_2 : decode cX10_worker 2 = .ok (.invokevirtual 83, 3) := by decide +kernel
theorem dX10_worker_5 : decode cX10_worker 5 = .ok (.astore_n 3, 1) := by decide +kernel
theorem dX10_worker_6 : decode cX10_worker 6 = .ok (.aload_n 3, 1) := by decide +kernel
theorem dX10_worker_7 : decode cX10_worker 7 = .ok (.ifnonnull 7, 3) := by decide +kernel
theorem dX10_worker_10 : decode cX10_worker 10 = .ok (.iconst (-1), 1) := by decide +kernel
theorem dX10_worker_11 : decode cX10_worker 11 = .ok (.goto 8, 3) := by decide +kernel
theorem dX10_worker_14 : decode cX10_worker 14 = .ok (.aload_n 3, 1) := by decide +kernel
theorem dX10_worker_15 : decode cX10_worker 15 = .ok (.iload_n 2, 1) := by decide +kernel
theorem dX10_worker_16 : decode cX10_worker 16 = .ok (.invokevirtual 277, 3) := by decide +kernel
theorem dX10_worker_19 : decode cX10_worker 19 = .ok (.ireturn, 1) := by decide +kernel
theorem dX10_timer_0 : decode cX10_timer 0 = .ok (.aload_n 0, 1) := by decide +kernel
theorem dX10_timer_1 : decode cX10_timer 1 = .ok (.iload_n 1, 1) := by decide +kernel
theorem dX10_timer_2 : decode cX10_timer 2 = .ok (.invokevirtual 147, 3) := by decide +kernel
theorem dX10_timer_5 : decode cX10_timer 5 = .ok (.astore_n 3, 1) := by decide +kernel
theorem dX10_timer_6 : decode cX10_timer 6 = .ok (.aload_n 3, 1) := by decide +kernel
theorem dX10_timer_7 : decode cX10_timer 7 = .ok (.ifnonnull 7, 3) := by decide +kernel
theorem dX10_timer_10 : decode cX10_timer 10 = .ok (.iconst (-1), 1) := by decide +kernel
theorem dX10_timer_11 : decode cX10_timer 11 = .ok (.goto 8, 3) := by decide +kernel
theorem dX10_timer_14 : decode cX10_timer 14 = .ok (.aload_n 3, 1) := by decide +kernel
theorem dX10_timer_15 : decode cX10_timer 15 = .ok (.iload_n 2, 1) := by decide +kernel
theorem dX10_timer_16 : decode cX10_timer 16 = .ok (.invokevirtual 278, 3) := by decide +kernel
theorem dX10_timer_19 : decode cX10_timer 19 = .ok (.ireturn, 1) := by decide +kernel
theorem dX10_waiting_0 : decode cX10_waiting 0 = .ok (.aload_n 0, 1) := by decide +kernel
theorem dX10_waiting_1 : decode cX10_waiting 1 = .ok (.getfield 10, 3) := by decide +kernel
theorem dX10_waiting_4 : decode cX10_waiting 4 = .ok (.iload_n 1, 1) := by decide +kernel
theorem dX10_waiting_5 : decode cX10_waiting 5 = .ok (.invokevirtual 133, 3) := by decide +kernel
theorem dX10_waiting_8 : decode cX10_waiting 8 = .ok (.astore_n 3, 1) := by decide +kernel
theorem dX10_waiting_9 : decode cX10_waiting 9 = .ok (.aload_n 3, 1) := by decide +kernel
theorem dX10_waiting_10 : decode cX10_waiting 10 = .ok (.ifnonnull 7, 3) := by decide +kernel
theorem dX10_waiting_13 : decode cX10_waiting 13 = .ok (.iconst (-1), 1) := by decide +kernel
theorem dX10_waiting_14 : decode cX10_waiting 14 = .ok (.goto 16, 3) := by decide +kernel
theorem dX10_waiting_17 : decode cX10_waiting 17 = .ok (.aload_n 0, 1) := by decide +kernel
theorem dX10_waiting_18 : decode cX10_waiting 18 = .ok (.getfield 10, 3) := by decide +kernel
theorem dX10_waiting_21 : decode cX10_waiting 21 = .ok (.iconst 0, 1) := by decide +kernel
theorem dX10_waiting_22 : decode cX10_waiting 22 = .ok (.aload_n 3, 1) := by decide +kernel
theorem dX10_waiting_23 : decode cX10_waiting 23 = .ok (.iload_n 2, 1) := by decide +kernel
theorem dX10_waiting_24 : decode cX10_waiting 24 = .ok (.invokevirtual 279, 3) := by decide +kernel
theorem dX10_waiting_27 : decode cX10_waiting 27 = .ok (.invokestatic 283, 3) := by decide +kernel
theorem dX10_waiting_30 : decode cX10_waiting 30 = .ok (.ireturn, 1) := by decide +kernel
theorem dX10_keyed_0 : decode cX10_keyed 0 = .ok (.aload_n 0, 1) := by decide +kernel
theorem dX10_keyed_1 : decode cX10_keyed 1 = .ok (.getfield 10, 3) := by decide +kernel
theorem dX10_keyed_4 : decode cX10_keyed 4 = .ok (.iload_n 1, 1) := by decide +kernel
theorem dX10_keyed_5 : decode cX10_keyed 5 = .ok (.invokevirtual 286, 3) := by decide +kernel
theorem dX10_keyed_8 : decode cX10_keyed 8 = .ok (.invokestatic 283, 3) := by decide +kernel
theorem dX10_keyed_11 : decode cX10_keyed 11 = .ok (.ireturn, 1) := by decide +kernel
theorem dX10_resting_0 : decode cX10_resting 0 = .ok (.aload_n 0, 1) := by decide +kernel
theorem dX10_resting_1 : decode cX10_resting 1 = .ok (.getfield 10, 3) := by decide +kernel
theorem dX10_resting_4 : decode cX10_resting 4 = .ok (.iconst 2, 1) := by decide +kernel
theorem dX10_resting_5 : decode cX10_resting 5 = .ok (.aconst_null, 1) := by decide +kernel
theorem dX10_resting_6 : decode cX10_resting 6 = .ok (.iload_n 1, 1) := by decide +kernel
theorem dX10_resting_7 : decode cX10_resting 7 = .ok (.invokevirtual 279, 3) := by decide +kernel
theorem dX10_resting_10 : decode cX10_resting 10 = .ok (.invokestatic 283, 3) := by decide +kernel
theorem dX10_resting_13 : decode cX10_resting 13 = .ok (.ireturn, 1) := by decide +kernel
theorem dX10_aside_0 : decode cX10_aside 0 = .ok (.aload_n 0, 1) := by decide +kernel
theorem dX10_aside_1 : decode cX10_aside 1 = .ok (.getfield 32, 3) := by decide +kernel
theorem dX10_aside_4 : decode cX10_aside 4 = .ok (.iload_n 1, 1) := by decide +kernel
theorem dX10_aside_5 : decode cX10_aside 5 = .ok (.invokevirtual 289, 3) := by decide +kernel
theorem dX10_aside_8 : decode cX10_aside 8 = .ok (.invokestatic 283, 3) := by decide +kernel
theorem dX10_aside_11 : decode cX10_aside 11 = .ok (.ireturn, 1) := by decide +kernel
theorem dX10_ending_0 : decode cX10_ending 0 = .ok (.aload_n 0, 1) := by decide +kernel
theorem dX10_ending_1 : decode cX10_ending 1 = .ok (.getfield 10, 3) := by decide +kernel
theorem dX10_ending_4 : decode cX10_ending 4 = .ok (.iconst 3, 1) := by decide +kernel
theorem dX10_ending_5 : decode cX10_ending 5 = .ok (.aconst_null, 1) := by decide +kernel
theorem dX10_ending_6 : decode cX10_ending 6 = .ok (.iload_n 1, 1) := by decide +kernel
theorem dX10_ending_7 : decode cX10_ending 7 = .ok (.invokevirtual 279, 3) := by decide +kernel
theorem dX10_ending_10 : decode cX10_ending 10 = .ok (.invokestatic 283, 3) := by decide +kernel
theorem dX10_ending_13 : decode cX10_ending 13 = .ok (.ireturn, 1) := by decide +kernel
theorem dX10_strikes_0 : decode cX10_strikes 0 = .ok (.iload_n 1, 1) := by decide +kernel
theorem dX10_strikes_1 : decode cX10_strikes 1 = .ok (.invokestatic 234, 3) := by decide +kernel
theorem dX10_strikes_4 : decode cX10_strikes 4 = .ok (.ifCond .eq 14, 3) := by decide +kernel
theorem dX10_strikes_7 : decode cX10_strikes 7 = .ok (.aload_n 0, 1) := by decide +kernel
theorem dX10_strikes_8 : decode cX10_strikes 8 = .ok (.getfield 54, 3) := by decide +kernel
theorem dX10_strikes_11 : decode cX10_strikes 11 = .ok (.iload_n 1, 1) := by decide +kernel
theorem dX10_strikes_12 : decode cX10_strikes 12 = .ok (.invokevirtual 238, 3) := by decide +kernel
theorem dX10_strikes_15 : decode cX10_strikes 15 = .ok (.goto 4, 3) := by decide +kernel
theorem dX10_strikes_18 : decode cX10_strikes 18 = .ok (.iconst (-1), 1) := by decide +kernel
theorem dX10_strikes_19 : decode cX10_strikes 19 = .ok (.ireturn, 1) := by decide +kernel
theorem dX10_banned_0 : decode cX10_banned 0 = .ok (.aload_n 0, 1) := by decide +kernel
theorem dX10_banned_1 : decode cX10_banned 1 = .ok (.getfield 54, 3) := by decide +kernel
theorem dX10_banned_4 : decode cX10_banned 4 = .ok (.aload_n 0, 1) := by decide +kernel
theorem dX10_banned_5 : decode cX10_banned 5 = .ok (.getfield 10, 3) := by decide +kernel
theorem dX10_banned_8 : decode cX10_banned 8 = .ok (.getfield 111, 3) := by decide +kernel
theorem dX10_banned_11 : decode cX10_banned 11 = .ok (.iconst 5, 1) := by decide +kernel
theorem dX10_banned_12 : decode cX10_banned 12 = .ok (.iaload, 1) := by decide +kernel
theorem dX10_banned_13 : decode cX10_banned 13 = .ok (.iload_n 1, 1) := by decide +kernel
theorem dX10_banned_14 : decode cX10_banned 14 = .ok (.invokevirtual 292, 3) := by decide +kernel
theorem dX10_banned_17 : decode cX10_banned 17 = .ok (.ireturn, 1) := by decide +kernel
theorem dX10_waits_0 : decode cX10_waits 0 = .ok (.aload_n 0, 1) := by decide +kernel
theorem dX10_waits_1 : decode cX10_waits 1 = .ok (.getfield 10, 3) := by decide +kernel
theorem dX10_waits_4 : decode cX10_waits 4 = .ok (.iload_n 1, 1) := by decide +kernel
theorem dX10_waits_5 : decode cX10_waits 5 = .ok (.invokevirtual 133, 3) := by decide +kernel
theorem dX10_waits_8 : decode cX10_waits 8 = .ok (.astore_n 3, 1) := by decide +kernel
theorem dX10_waits_9 : decode cX10_waits 9 = .ok (.aload_n 3, 1) := by decide +kernel
theorem dX10_waits_10 : decode cX10_waits 10 = .ok (.ifnonnull 5, 3) := by decide +kernel
theorem dX10_waits_13 : decode cX10_waits 13 = .ok (.iconst (-1), 1) := by decide +kernel
theorem dX10_waits_14 : decode cX10_waits 14 = .ok (.ireturn, 1) := by decide +kernel
theorem dX10_waits_15 : decode cX10_waits 15 = .ok (.iload_n 2, 1) := by decide +kernel
theorem dX10_waits_16 : decode cX10_waits 16 = .ok (.tableswitch 43 0 2 #[28, 33, 38], 28) := by decide +kernel
theorem dX10_waits_44 : decode cX10_waits 44 = .ok (.aload_n 3, 1) := by decide +kernel
theorem dX10_waits_45 : decode cX10_waits 45 = .ok (.getfield 295, 3) := by decide +kernel
theorem dX10_waits_48 : decode cX10_waits 48 = .ok (.ireturn, 1) := by decide +kernel
theorem dX10_waits_49 : decode cX10_waits 49 = .ok (.aload_n 3, 1) := by decide +kernel
theorem dX10_waits_50 : decode cX10_waits 50 = .ok (.getfield 298, 3) := by decide +kernel
theorem dX10_waits_53 : decode cX10_waits 53 = .ok (.ireturn, 1) := by decide +kernel
theorem dX10_waits_54 : decode cX10_waits 54 = .ok (.aload_n 3, 1) := by decide +kernel
theorem dX10_waits_55 : decode cX10_waits 55 = .ok (.getfield 301, 3) := by decide +kernel
theorem dX10_waits_58 : decode cX10_waits 58 = .ok (.ireturn, 1) := by decide +kernel
theorem dX10_waits_59 : decode cX10_waits 59 = .ok (.iconst (-1), 1) := by decide +kernel
theorem dX10_waits_60 : decode cX10_waits 60 = .ok (.ireturn, 1) := by decide +kernel
theorem dX10_share_0 : decode cX10_share 0 = .ok (.aload_n 0, 1) := by decide +kernel
theorem dX10_share_1 : decode cX10_share 1 = .ok (.getfield 10, 3) := by decide +kernel
theorem dX10_share_4 : decode cX10_share 4 = .ok (.iload_n 1, 1) := by decide +kernel
theorem dX10_share_5 : decode cX10_share 5 = .ok (.invokevirtual 133, 3) := by decide +kernel
theorem dX10_share_8 : decode cX10_share 8 = .ok (.astore_n 3, 1) := by decide +kernel
theorem dX10_share_9 : decode cX10_share 9 = .ok (.aload_n 3, 1) := by decide +kernel
theorem dX10_share_10 : decode cX10_share 10 = .ok (.ifnonnull 5, 3) := by decide +kernel
theorem dX10_share_13 : decode cX10_share 13 = .ok (.iconst (-1), 1) := by decide +kernel
theorem dX10_share_14 : decode cX10_share 14 = .ok (.ireturn, 1) := by decide +kernel
theorem dX10_share_15 : decode cX10_share 15 = .ok (.iload_n 2, 1) := by decide +kernel
theorem dX10_share_16 : decode cX10_share 16 = .ok (.tableswitch 93 0 4 #[36, 51, 66, 72, 84], 36) := by decide +kernel
theorem dX10_share_52 : decode cX10_share 52 = .ok (.aload_n 3, 1) := by decide +kernel
theorem dX10_share_53 : decode cX10_share 53 = .ok (.getfield 304, 3) := by decide +kernel
theorem dX10_share_56 : decode cX10_share 56 = .ok (.aload_n 0, 1) := by decide +kernel
theorem dX10_share_57 : decode cX10_share 57 = .ok (.getfield 10, 3) := by decide +kernel
theorem dX10_share_60 : decode cX10_share 60 = .ok (.invokevirtual 307, 3) := by decide +kernel
theorem dX10_share_63 : decode cX10_share 63 = .ok (.invokestatic 310, 3) := by decide +kernel
theorem dX10_share_66 : decode cX10_share 66 = .ok (.ireturn, 1) := by decide +kernel
theorem dX10_share_67 : decode cX10_share 67 = .ok (.aload_n 3, 1) := by decide +kernel
theorem dX10_share_68 : decode cX10_share 68 = .ok (.getfield 313, 3) := by decide +kernel
theorem dX10_share_71 : decode cX10_share 71 = .ok (.aload_n 0, 1) := by decide +kernel
theorem dX10_share_72 : decode cX10_share 72 = .ok (.getfield 10, 3) := by decide +kernel
theorem dX10_share_75 : decode cX10_share 75 = .ok (.invokevirtual 316, 3) := by decide +kernel
theorem dX10_share_78 : decode cX10_share 78 = .ok (.invokestatic 310, 3) := by decide +kernel
theorem dX10_share_81 : decode cX10_share 81 = .ok (.ireturn, 1) := by decide +kernel
theorem dX10_share_82 : decode cX10_share 82 = .ok (.aload_n 0, 1) := by decide +kernel
theorem dX10_share_83 : decode cX10_share 83 = .ok (.aload_n 3, 1) := by decide +kernel
theorem dX10_share_84 : decode cX10_share 84 = .ok (.invokevirtual 319, 3) := by decide +kernel
theorem dX10_share_87 : decode cX10_share 87 = .ok (.ireturn, 1) := by decide +kernel
theorem dX10_share_88 : decode cX10_share 88 = .ok (.aload_n 0, 1) := by decide +kernel
theorem dX10_share_89 : decode cX10_share 89 = .ok (.getfield 10, 3) := by decide +kernel
theorem dX10_share_92 : decode cX10_share 92 = .ok (.aload_n 3, 1) := by decide +kernel
theorem dX10_share_93 : decode cX10_share 93 = .ok (.invokevirtual 323, 3) := by decide +kernel
theorem dX10_share_96 : decode cX10_share 96 = .ok (.invokestatic 283, 3) := by decide +kernel
theorem dX10_share_99 : decode cX10_share 99 = .ok (.ireturn, 1) := by decide +kernel
theorem dX10_share_100 : decode cX10_share 100 = .ok (.aload_n 0, 1) := by decide +kernel
theorem dX10_share_101 : decode cX10_share 101 = .ok (.getfield 10, 3) := by decide +kernel
theorem dX10_share_104 : decode cX10_share 104 = .ok (.aload_n 3, 1) := by decide +kernel
theorem dX10_share_105 : decode cX10_share 105 = .ok (.invokevirtual 327, 3) := by decide +kernel
theorem dX10_share_108 : decode cX10_share 108 = .ok (.ireturn, 1) := by decide +kernel
theorem dX10_share_109 : decode cX10_share 109 = .ok (.iconst (-1), 1) := by decide +kernel
theorem dX10_share_110 : decode cX10_share 110 = .ok (.ireturn, 1) := by decide +kernel
theorem dX10_path_0 : decode cX10_path 0 = .ok (.iload_n 2, 1) := by decide +kernel
theorem dX10_path_1 : decode cX10_path 1 = .ok (.ifCond .ge 5, 3) := by decide +kernel
theorem dX10_path_4 : decode cX10_path 4 = .ok (.iconst (-1), 1) := by decide +kernel
theorem dX10_path_5 : decode cX10_path 5 = .ok (.ireturn, 1) := by decide +kernel
theorem dX10_path_6 : decode cX10_path 6 = .ok (.iconst 0, 1) := by decide +kernel
theorem dX10_path_7 : decode cX10_path 7 = .ok (.istore_n 3, 1) := by decide +kernel
theorem dX10_path_8 : decode cX10_path 8 = .ok (.aload_n 0, 1) := by decide +kernel
theorem dX10_path_9 : decode cX10_path 9 = .ok (.iload_n 1, 1) := by decide +kernel
theorem dX10_path_10 : decode cX10_path 10 = .ok (.invokevirtual 171, 3) := by decide +kernel
theorem dX10_path_13 : decode cX10_path 13 = .ok (.astore 4, 2) := by decide +kernel
theorem dX10_path_15 : decode cX10_path 15 = .ok (.aload 4, 2) := by decide +kernel
theorem dX10_path_17 : decode cX10_path 17 = .ok (.ifnull 27, 3) := by decide +kernel
theorem dX10_path_20 : decode cX10_path 20 = .ok (.iload_n 3, 1) := by decide +kernel
theorem dX10_path_21 : decode cX10_path 21 = .ok (.iload_n 2, 1) := by decide +kernel
theorem dX10_path_22 : decode cX10_path 22 = .ok (.if_icmp .ne 9, 3) := by decide +kernel
theorem dX10_path_25 : decode cX10_path 25 = .ok (.aload 4, 2) := by decide +kernel
theorem dX10_path_27 : decode cX10_path 27 = .ok (.getfield 95, 3) := by decide +kernel
theorem dX10_path_30 : decode cX10_path 30 = .ok (.ireturn, 1) := by decide +kernel
theorem dX10_path_31 : decode cX10_path 31 = .ok (.iinc 3 1, 3) := by decide +kernel
theorem dX10_path_34 : decode cX10_path 34 = .ok (.aload 4, 2) := by decide +kernel
theorem dX10_path_36 : decode cX10_path 36 = .ok (.getfield 330, 3) := by decide +kernel
theorem dX10_path_39 : decode cX10_path 39 = .ok (.astore 4, 2) := by decide +kernel
theorem dX10_path_41 : decode cX10_path 41 = .ok (.goto (-26), 3) := by decide +kernel
theorem dX10_path_44 : decode cX10_path 44 = .ok (.iconst (-1), 1) := by decide +kernel
theorem dX10_path_45 : decode cX10_path 45 = .ok (.ireturn, 1) := by decide +kernel
theorem dX10_ahead_0 : decode cX10_ahead 0 = .ok (.iload_n 1, 1) := by decide +kernel
theorem dX10_ahead_1 : decode cX10_ahead 1 = .ok (.ifCond .lt 16, 3) := by decide +kernel
theorem dX10_ahead_4 : decode cX10_ahead 4 = .ok (.iload_n 1, 1) := by decide +kernel
theorem dX10_ahead_5 : decode cX10_ahead 5 = .ok (.aload_n 0, 1) := by decide +kernel
theorem dX10_ahead_6 : decode cX10_ahead 6 = .ok (.getfield 10, 3) := by decide +kernel
theorem dX10_ahead_9 : decode cX10_ahead 9 = .ok (.getfield 251, 3) := by decide +kernel
theorem dX10_ahead_12 : decode cX10_ahead 12 = .ok (.iconst 0, 1) := by decide +kernel
theorem dX10_ahead_13 : decode cX10_ahead 13 = .ok (.iaload, 1) := by decide +kernel
theorem dX10_ahead_14 : decode cX10_ahead 14 = .ok (.if_icmp .lt 5, 3) := by decide +kernel
theorem dX10_ahead_17 : decode cX10_ahead 17 = .ok (.iconst (-1), 1) := by decide +kernel
theorem dX10_ahead_18 : decode cX10_ahead 18 = .ok (.ireturn, 1) := by decide +kernel
theorem dX10_ahead_19 : decode cX10_ahead 19 = .ok (.aload_n 0, 1) := by decide +kernel
theorem dX10_ahead_20 : decode cX10_ahead 20 = .ok (.getfield 19, 3) := by decide +kernel
theorem dX10_ahead_23 : decode cX10_ahead 23 = .ok (.aload_n 0, 1) := by decide +kernel
theorem dX10_ahead_24 : decode cX10_ahead 24 = .ok (.getfield 10, 3) := by decide +kernel
theorem dX10_ahead_27 : decode cX10_ahead 27 = .ok (.iload_n 1, 1) := by decide +kernel
theorem dX10_ahead_28 : decode cX10_ahead 28 = .ok (.invokevirtual 333, 3) := by decide +kernel
theorem dX10_ahead_31 : decode cX10_ahead 31 = .ok (.ireturn, 1) := by decide +kernel
theorem dX10_turnOf_0 : decode cX10_turnOf 0 = .ok (.aload_n 0, 1) := by decide +kernel
theorem dX10_turnOf_1 : decode cX10_turnOf 1 = .ok (.iload_n 1, 1) := by decide +kernel
theorem dX10_turnOf_2 : decode cX10_turnOf 2 = .ok (.invokevirtual 171, 3) := by decide +kernel
theorem dX10_turnOf_5 : decode cX10_turnOf 5 = .ok (.astore_n 2, 1) := by decide +kernel
theorem dX10_turnOf_6 : decode cX10_turnOf 6 = .ok (.aload_n 2, 1) := by decide +kernel
theorem dX10_turnOf_7 : decode cX10_turnOf 7 = .ok (.ifnull 10, 3) := by decide +kernel
theorem dX10_turnOf_10 : decode cX10_turnOf 10 = .ok (.aload_n 2, 1) := by decide +kernel
theorem dX10_turnOf_11 : decode cX10_turnOf 11 = .ok (.getfield 105, 3) := by decide +kernel
theorem dX10_turnOf_14 : decode cX10_turnOf 14 = .ok (.ifCond .eq 7, 3) := by decide +kernel
theorem dX10_turnOf_17 : decode cX10_turnOf 17 = .ok (.iconst (-1), 1) := by decide +kernel
theorem dX10_turnOf_18 : decode cX10_turnOf 18 = .ok (.goto 19, 3) := by decide +kernel
theorem dX10_turnOf_21 : decode cX10_turnOf 21 = .ok (.aload_n 0, 1) := by decide +kernel
theorem dX10_turnOf_22 : decode cX10_turnOf 22 = .ok (.getfield 19, 3) := by decide +kernel
theorem dX10_turnOf_25 : decode cX10_turnOf 25 = .ok (.aload_n 0, 1) := by decide +kernel
theorem dX10_turnOf_26 : decode cX10_turnOf 26 = .ok (.getfield 10, 3) := by decide +kernel
theorem dX10_turnOf_29 : decode cX10_turnOf 29 = .ok (.aload_n 2, 1) := by decide +kernel
theorem dX10_turnOf_30 : decode cX10_turnOf 30 = .ok (.aload_n 2, 1) := by decide +kernel
theorem dX10_turnOf_31 : decode cX10_turnOf 31 = .ok (.getfield 191, 3) := by decide +kernel
theorem dX10_turnOf_34 : decode cX10_turnOf 34 = .ok (.invokevirtual 337, 3) := by decide +kernel
theorem dX10_turnOf_37 : decode cX10_turnOf 37 = .ok (.ireturn, 1) := by decide +kernel
theorem dX10_bestLane_0 : decode cX10_bestLane 0 = .ok (.aload_n 0, 1) := by decide +kernel
theorem dX10_bestLane_1 : decode cX10_bestLane 1 = .ok (.iload_n 1, 1) := by decide +kernel
theorem dX10_bestLane_2 : decode cX10_bestLane 2 = .ok (.invokevirtual 171, 3) := by decide +kernel
theorem dX10_bestLane_5 : decode cX10_bestLane 5 = .ok (.astore_n 3, 1) := by decide +kernel
theorem dX10_bestLane_6 : decode cX10_bestLane 6 = .ok (.aload_n 3, 1) := by decide +kernel
theorem dX10_bestLane_7 : decode cX10_bestLane 7 = .ok (.ifnull 19, 3) := by decide +kernel
theorem dX10_bestLane_10 : decode cX10_bestLane 10 = .ok (.aload_n 3, 1) := by decide +kernel
theorem dX10_bestLane_11 : decode cX10_bestLane 11 = .ok (.getfield 105, 3) := by decide +kernel
theorem dX10_bestLane_14 : decode cX10_bestLane 14 = .ok (.ifCond .ne 12, 3) := by decide +kernel
theorem dX10_bestLane_17 : decode cX10_bestLane 17 = .ok (.iload_n 2, 1) := by decide +kernel
theorem dX10_bestLane_18 : decode cX10_bestLane 18 = .ok (.ifCond .lt 8, 3) := by decide +kernel
theorem dX10_bestLane_21 : decode cX10_bestLane 21 = .ok (.iload_n 2, 1) := by decide +kernel
theorem dX10_bestLane_22 : decode cX10_bestLane 22 = .ok (.iconst 1, 1) := by decide +kernel
theorem dX10_bestLane_23 : decode cX10_bestLane 23 = .ok (.if_icmp .le 5, 3) := by decide +kernel
theorem dX10_bestLane_26 : decode cX10_bestLane 26 = .ok (.iconst (-1), 1) := by decide +kernel
theorem dX10_bestLane_27 : decode cX10_bestLane 27 = .ok (.ireturn, 1) := by decide +kernel
theorem dX10_bestLane_28 : decode cX10_bestLane 28 = .ok (.iconst (-1), 1) := by decide +kernel
theorem dX10_bestLane_29 : decode cX10_bestLane 29 = .ok (.istore 4, 2) := by decide +kernel
theorem dX10_bestLane_31 : decode cX10_bestLane 31 = .ok (.iconst 0, 1) := by decide +kernel
theorem dX10_bestLane_32 : decode cX10_bestLane 32 = .ok (.istore 5, 2) := by decide +kernel
theorem dX10_bestLane_34 : decode cX10_bestLane 34 = .ok (.aload_n 0, 1) := by decide +kernel
theorem dX10_bestLane_35 : decode cX10_bestLane 35 = .ok (.getfield 10, 3) := by decide +kernel
theorem dX10_bestLane_38 : decode cX10_bestLane 38 = .ok (.getfield 341, 3) := by decide +kernel
theorem dX10_bestLane_41 : decode cX10_bestLane 41 = .ok (.astore 6, 2) := by decide +kernel
theorem dX10_bestLane_43 : decode cX10_bestLane 43 = .ok (.aload 6, 2) := by decide +kernel
theorem dX10_bestLane_45 : decode cX10_bestLane 45 = .ok (.arraylength, 1) := by decide +kernel
theorem dX10_bestLane_46 : decode cX10_bestLane 46 = .ok (.istore 7, 2) := by decide +kernel
theorem dX10_bestLane_48 : decode cX10_bestLane 48 = .ok (.iconst 0, 1) := by decide +kernel
theorem dX10_bestLane_49 : decode cX10_bestLane 49 = .ok (.istore 8, 2) := by decide +kernel
theorem dX10_bestLane_51 : decode cX10_bestLane 51 = .ok (.iload 8, 2) := by decide +kernel
theorem dX10_bestLane_53 : decode cX10_bestLane 53 = .ok (.iload 7, 2) := by decide +kernel
theorem dX10_bestLane_55 : decode cX10_bestLane 55 = .ok (.if_icmp .ge 84, 3) := by decide +kernel
theorem dX10_bestLane_58 : decode cX10_bestLane 58 = .ok (.aload 6, 2) := by decide +kernel
theorem dX10_bestLane_60 : decode cX10_bestLane 60 = .ok (.iload 8, 2) := by decide +kernel
theorem dX10_bestLane_62 : decode cX10_bestLane 62 = .ok (.aaload, 1) := by decide +kernel
theorem dX10_bestLane_63 : decode cX10_bestLane 63 = .ok (.astore 9, 2) := by decide +kernel
theorem dX10_bestLane_65 : decode cX10_bestLane 65 = .ok (.aload 9, 2) := by decide +kernel
theorem dX10_bestLane_67 : decode cX10_bestLane 67 = .ok (.aload_n 3, 1) := by decide +kernel
theorem dX10_bestLane_68 : decode cX10_bestLane 68 = .ok (.getfield 191, 3) := by decide +kernel
theorem dX10_bestLane_71 : decode cX10_bestLane 71 = .ok (.if_acmp .eq 22, 3) := by decide +kernel
theorem dX10_bestLane_74 : decode cX10_bestLane 74 = .ok (.aload 9, 2) := by decide +kernel
theorem dX10_bestLane_76 : decode cX10_bestLane 76 = .ok (.getfield 160, 3) := by decide +kernel
theorem dX10_bestLane_79 : decode cX10_bestLane 79 = .ok (.ifCond .ne 54, 3) := by decide +kernel
theorem dX10_bestLane_82 : decode cX10_bestLane 82 = .ok (.aload 9, 2) := by decide +kernel
theorem dX10_bestLane_84 : decode cX10_bestLane 84 = .ok (.invokevirtual 195, 3) := by decide +kernel
theorem dX10_bestLane_87 : decode cX10_bestLane 87 = .ok (.ifCond .ne 6, 3) := by decide +kernel
theorem dX10_bestLane_90 : decode cX10_bestLane 90 = .ok (.goto 43, 3) := by decide +kernel
theorem dX10_bestLane_93 : decode cX10_bestLane 93 = .ok (.aload_n 0, 1) := by decide +kernel
theorem dX10_bestLane_94 : decode cX10_bestLane 94 = .ok (.getfield 19, 3) := by decide +kernel
theorem dX10_bestLane_97 : decode cX10_bestLane 97 = .ok (.aload_n 0, 1) := by decide +kernel
theorem dX10_bestLane_98 : decode cX10_bestLane 98 = .ok (.getfield 10, 3) := by decide +kernel
theorem dX10_bestLane_101 : decode cX10_bestLane 101 = .ok (.aload_n 3, 1) := by decide +kernel
theorem dX10_bestLane_102 : decode cX10_bestLane 102 = .ok (.aload 9, 2) := by decide +kernel
theorem dX10_bestLane_104 : decode cX10_bestLane 104 = .ok (.invokevirtual 337, 3) := by decide +kernel
theorem dX10_bestLane_107 : decode cX10_bestLane 107 = .ok (.istore 10, 2) := by decide +kernel
theorem dX10_bestLane_109 : decode cX10_bestLane 109 = .ok (.iload 4, 2) := by decide +kernel
theorem dX10_bestLane_111 : decode cX10_bestLane 111 = .ok (.iconst (-1), 1) := by decide +kernel
theorem dX10_bestLane_112 : decode cX10_bestLane 112 = .ok (.if_icmp .eq 10, 3) := by decide +kernel
theorem dX10_bestLane_115 : decode cX10_bestLane 115 = .ok (.iload 10, 2) := by decide +kernel
theorem dX10_bestLane_117 : decode cX10_bestLane 117 = .ok (.iload 5, 2) := by decide +kernel
theorem dX10_bestLane_119 : decode cX10_bestLane 119 = .ok (.if_icmp .ge 14, 3) := by decide +kernel
theorem dX10_bestLane_122 : decode cX10_bestLane 122 = .ok (.aload 9, 2) := by decide +kernel
theorem dX10_bestLane_124 : decode cX10_bestLane 124 = .ok (.getfield 345, 3) := by decide +kernel
theorem dX10_bestLane_127 : decode cX10_bestLane 127 = .ok (.istore 4, 2) := by decide +kernel
theorem dX10_bestLane_129 : decode cX10_bestLane 129 = .ok (.iload 10, 2) := by decide +kernel
theorem dX10_bestLane_131 : decode cX10_bestLane 131 = .ok (.istore 5, 2) := by decide +kernel
theorem dX10_bestLane_133 : decode cX10_bestLane 133 = .ok (.iinc 8 1, 3) := by decide +kernel
theorem dX10_bestLane_136 : decode cX10_bestLane 136 = .ok (.goto (-85), 3) := by decide +kernel
theorem dX10_bestLane_139 : decode cX10_bestLane 139 = .ok (.iload_n 2, 1) := by decide +kernel
theorem dX10_bestLane_140 : decode cX10_bestLane 140 = .ok (.ifCond .ne 8, 3) := by decide +kernel
theorem dX10_bestLane_143 : decode cX10_bestLane 143 = .ok (.iload 4, 2) := by decide +kernel
theorem dX10_bestLane_145 : decode cX10_bestLane 145 = .ok (.goto 5, 3) := by decide +kernel
theorem dX10_bestLane_148 : decode cX10_bestLane 148 = .ok (.iload 5, 2) := by decide +kernel
theorem dX10_bestLane_150 : decode cX10_bestLane 150 = .ok (.ireturn, 1) := by decide +kernel
theorem dX10_chain_0 : decode cX10_chain 0 = .ok (.aload_n 0, 1) := by decide +kernel
theorem dX10_chain_1 : decode cX10_chain 1 = .ok (.iload_n 1, 1) := by decide +kernel
theorem dX10_chain_2 : decode cX10_chain 2 = .ok (.invokevirtual 171, 3) := by decide +kernel
theorem dX10_chain_5 : decode cX10_chain 5 = .ok (.astore_n 3, 1) := by decide +kernel
theorem dX10_chain_6 : decode cX10_chain 6 = .ok (.aload_n 3, 1) := by decide +kernel
theorem dX10_chain_7 : decode cX10_chain 7 = .ok (.ifnull 12, 3) := by decide +kernel
theorem dX10_chain_10 : decode cX10_chain 10 = .ok (.iload_n 2, 1) := by decide +kernel
theorem dX10_chain_11 : decode cX10_chain 11 = .ok (.ifCond .lt 8, 3) := by decide +kernel
theorem dX10_chain_14 : decode cX10_chain 14 = .ok (.iload_n 2, 1) := by decide +kernel
theorem dX10_chain_15 : decode cX10_chain 15 = .ok (.iconst 1, 1) := by decide +kernel
theorem dX10_chain_16 : decode cX10_chain 16 = .ok (.if_icmp .le 5, 3) := by decide +kernel
theorem dX10_chain_19 : decode cX10_chain 19 = .ok (.iconst (-1), 1) := by decide +kernel
theorem dX10_chain_20 : decode cX10_chain 20 = .ok (.ireturn, 1) := by decide +kernel
theorem dX10_chain_21 : decode cX10_chain 21 = .ok (.aload_n 3, 1) := by decide +kernel
theorem dX10_chain_22 : decode cX10_chain 22 = .ok (.getfield 346, 3) := by decide +kernel
theorem dX10_chain_25 : decode cX10_chain 25 = .ok (.istore 4, 2) := by decide +kernel
theorem dX10_chain_27 : decode cX10_chain 27 = .ok (.iconst 1, 1) := by decide +kernel
theorem dX10_chain_28 : decode cX10_chain 28 = .ok (.istore 5, 2) := by decide +kernel
theorem dX10_chain_30 : decode cX10_chain 30 = .ok (.aload_n 3, 1) := by decide +kernel
theorem dX10_chain_31 : decode cX10_chain 31 = .ok (.getfield 330, 3) := by decide +kernel
theorem dX10_chain_34 : decode cX10_chain 34 = .ok (.astore 6, 2) := by decide +kernel
theorem dX10_chain_36 : decode cX10_chain 36 = .ok (.aload 6, 2) := by decide +kernel
theorem dX10_chain_38 : decode cX10_chain 38 = .ok (.ifnull 35, 3) := by decide +kernel
theorem dX10_chain_41 : decode cX10_chain 41 = .ok (.aload 6, 2) := by decide +kernel
theorem dX10_chain_43 : decode cX10_chain 43 = .ok (.getfield 105, 3) := by decide +kernel
theorem dX10_chain_46 : decode cX10_chain 46 = .ok (.iconst 4, 1) := by decide +kernel
theorem dX10_chain_47 : decode cX10_chain 47 = .ok (.if_icmp .eq 26, 3) := by decide +kernel
theorem dX10_chain_50 : decode cX10_chain 50 = .ok (.iload 4, 2) := by decide +kernel
theorem dX10_chain_52 : decode cX10_chain 52 = .ok (.aload 6, 2) := by decide +kernel
theorem dX10_chain_54 : decode cX10_chain 54 = .ok (.getfield 346, 3) := by decide +kernel
theorem dX10_chain_57 : decode cX10_chain 57 = .ok (.iadd, 1) := by decide +kernel
theorem dX10_chain_58 : decode cX10_chain 58 = .ok (.istore 4, 2) := by decide +kernel
theorem dX10_chain_60 : decode cX10_chain 60 = .ok (.iinc 5 1, 3) := by decide +kernel
theorem dX10_chain_63 : decode cX10_chain 63 = .ok (.aload 6, 2) := by decide +kernel
theorem dX10_chain_65 : decode cX10_chain 65 = .ok (.getfield 330, 3) := by decide +kernel
theorem dX10_chain_68 : decode cX10_chain 68 = .ok (.astore 6, 2) := by decide +kernel
theorem dX10_chain_70 : decode cX10_chain 70 = .ok (.goto (-34), 3) := by decide +kernel
theorem dX10_chain_73 : decode cX10_chain 73 = .ok (.iload_n 2, 1) := by decide +kernel
theorem dX10_chain_74 : decode cX10_chain 74 = .ok (.ifCond .ne 8, 3) := by decide +kernel
theorem dX10_chain_77 : decode cX10_chain 77 = .ok (.iload 4, 2) := by decide +kernel
theorem dX10_chain_79 : decode cX10_chain 79 = .ok (.goto 5, 3) := by decide +kernel
theorem dX10_chain_82 : decode cX10_chain 82 = .ok (.iload 5, 2) := by decide +kernel
theorem dX10_chain_84 : decode cX10_chain 84 = .ok (.ireturn, 1) := by decide +kernel
theorem dX10_lapse_0 : decode cX10_lapse 0 = .ok (.iload_n 1, 1) := by decide +kernel
theorem dX10_lapse_1 : decode cX10_lapse 1 = .ok (.iconst 1, 1) := by decide +kernel
theorem dX10_lapse_2 : decode cX10_lapse 2 = .ok (.if_icmp .lt 9, 3) := by decide +kernel
theorem dX10_lapse_5 : decode cX10_lapse 5 = .ok (.iload_n 1, 1) := by decide +kernel
theorem dX10_lapse_6 : decode cX10_lapse 6 = .ok (.bipush 99, 2) := by decide +kernel
theorem dX10_lapse_8 : decode cX10_lapse 8 = .ok (.if_icmp .le 5, 3) := by decide +kernel
theorem dX10_lapse_11 : decode cX10_lapse 11 = .ok (.iconst (-1), 1) := by decide +kernel
theorem dX10_lapse_12 : decode cX10_lapse 12 = .ok (.ireturn, 1) := by decide +kernel
theorem dX10_lapse_13 : decode cX10_lapse 13 = .ok (.iload_n 2, 1) := by decide +kernel
theorem dX10_lapse_14 : decode cX10_lapse 14 = .ok (.tableswitch 59 0 2 #[26, 37, 48], 26) := by decide +kernel
theorem dX10_lapse_40 : decode cX10_lapse 40 = .ok (.aload_n 0, 1) := by decide +kernel
theorem dX10_lapse_41 : decode cX10_lapse 41 = .ok (.aload_n 0, 1) := by decide +kernel
theorem dX10_lapse_42 : decode cX10_lapse 42 = .ok (.getfield 108, 3) := by decide +kernel
theorem dX10_lapse_45 : decode cX10_lapse 45 = .ok (.iload_n 1, 1) := by decide +kernel
theorem dX10_lapse_46 : decode cX10_lapse 46 = .ok (.iadd, 1) := by decide +kernel
theorem dX10_lapse_47 : decode cX10_lapse 47 = .ok (.invokevirtual 347, 3) := by decide +kernel
theorem dX10_lapse_50 : decode cX10_lapse 50 = .ok (.ireturn, 1) := by decide +kernel
theorem dX10_lapse_51 : decode cX10_lapse 51 = .ok (.aload_n 0, 1) := by decide +kernel
theorem dX10_lapse_52 : decode cX10_lapse 52 = .ok (.aload_n 0, 1) := by decide +kernel
theorem dX10_lapse_53 : decode cX10_lapse 53 = .ok (.getfield 108, 3) := by decide +kernel
theorem dX10_lapse_56 : decode cX10_lapse 56 = .ok (.iload_n 1, 1) := by decide +kernel
theorem dX10_lapse_57 : decode cX10_lapse 57 = .ok (.iadd, 1) := by decide +kernel
theorem dX10_lapse_58 : decode cX10_lapse 58 = .ok (.invokevirtual 350, 3) := by decide +kernel
theorem dX10_lapse_61 : decode cX10_lapse 61 = .ok (.ireturn, 1) := by decide +kernel
theorem dX10_lapse_62 : decode cX10_lapse 62 = .ok (.aload_n 0, 1) := by decide +kernel
theorem dX10_lapse_63 : decode cX10_lapse 63 = .ok (.aload_n 0, 1) := by decide +kernel
theorem dX10_lapse_64 : decode cX10_lapse 64 = .ok (.getfield 108, 3) := by decide +kernel
theorem dX10_lapse_67 : decode cX10_lapse 67 = .ok (.iload_n 1, 1) := by decide +kernel
theorem dX10_lapse_68 : decode cX10_lapse 68 = .ok (.iadd, 1) := by decide +kernel
theorem dX10_lapse_69 : decode cX10_lapse 69 = .ok (.invokevirtual 353, 3) := by decide +kernel
theorem dX10_lapse_72 : decode cX10_lapse 72 = .ok (.ireturn, 1) := by decide +kernel
theorem dX10_lapse_73 : decode cX10_lapse 73 = .ok (.iconst (-1), 1) := by decide +kernel
theorem dX10_lapse_74 : decode cX10_lapse 74 = .ok (.ireturn, 1) := by decide +kernel
theorem dX10_safe_0 : decode cX10_safe 0 = .ok (.aload_n 0, 1) := by decide +kernel
theorem dX10_safe_1 : decode cX10_safe 1 = .ok (.iload_n 1, 1) := by decide +kernel
theorem dX10_safe_2 : decode cX10_safe 2 = .ok (.invokevirtual 171, 3) := by decide +kernel
theorem dX10_safe_5 : decode cX10_safe 5 = .ok (.astore_n 2, 1) := by decide +kernel
theorem dX10_safe_6 : decode cX10_safe 6 = .ok (.aload_n 2, 1) := by decide +kernel
theorem dX10_safe_7 : decode cX10_safe 7 = .ok (.ifnull 10, 3) := by decide +kernel
theorem dX10_safe_10 : decode cX10_safe 10 = .ok (.aload_n 2, 1) := by decide +kernel
theorem dX10_safe_11 : decode cX10_safe 11 = .ok (.getfield 105, 3) := by decide +kernel
theorem dX10_safe_14 : decode cX10_safe 14 = .ok (.ifCond .eq 5, 3) := by decide +kernel
theorem dX10_safe_17 : decode cX10_safe 17 = .ok (.iconst (-1), 1) := by decide +kernel
theorem dX10_safe_18 : decode cX10_safe 18 = .ok (.ireturn, 1) := by decide +kernel
theorem dX10_safe_19 : decode cX10_safe 19 = .ok (.aload_n 0, 1) := by decide +kernel
theorem dX10_safe_20 : decode cX10_safe 20 = .ok (.getfield 10, 3) := by decide +kernel
theorem dX10_safe_23 : decode cX10_safe 23 = .ok (.getfield 111, 3) := by decide +kernel
theorem dX10_safe_26 : decode cX10_safe 26 = .ok (.iconst 0, 1) := by decide +kernel
theorem dX10_safe_27 : decode cX10_safe 27 = .ok (.iaload, 1) := by decide +kernel
theorem dX10_safe_28 : decode cX10_safe 28 = .ok (.istore_n 3, 1) := by decide +kernel
theorem dX10_safe_29 : decode cX10_safe 29 = .ok (.aload_n 0, 1) := by decide +kernel
theorem dX10_safe_30 : decode cX10_safe 30 = .ok (.getfield 108, 3) := by decide +kernel
theorem dX10_safe_33 : decode cX10_safe 33 = .ok (.bipush 9, 2) := by decide +kernel
theorem dX10_safe_35 : decode cX10_safe 35 = .ok (.iload_n 3, 1) := by decide +kernel
theorem dX10_safe_36 : decode cX10_safe 36 = .ok (.imul, 1) := by decide +kernel
theorem dX10_safe_37 : decode cX10_safe 37 = .ok (.aload_n 2, 1) := by decide +kernel
theorem dX10_safe_38 : decode cX10_safe 38 = .ok (.iload_n 3, 1) := by decide +kernel
theorem dX10_safe_39 : decode cX10_safe 39 = .ok (.invokevirtual 271, 3) := by decide +kernel
theorem dX10_safe_42 : decode cX10_safe 42 = .ok (.isub, 1) := by decide +kernel
theorem dX10_safe_43 : decode cX10_safe 43 = .ok (.invokestatic 356, 3) := by decide +kernel
theorem dX10_safe_46 : decode cX10_safe 46 = .ok (.ireturn, 1) := by decide +kernel
theorem dX10_finish_0 : decode cX10_finish 0 = .ok (.iload_n 1, 1) := by decide +kernel
theorem dX10_finish_1 : decode cX10_finish 1 = .ok (.invokestatic 361, 3) := by decide +kernel
theorem dX10_finish_4 : decode cX10_finish 4 = .ok (.ifCond .eq 12, 3) := by decide +kernel
theorem dX10_finish_7 : decode cX10_finish 7 = .ok (.iload_n 2, 1) := by decide +kernel
theorem dX10_finish_8 : decode cX10_finish 8 = .ok (.ifCond .lt 8, 3) := by decide +kernel
theorem dX10_finish_11 : decode cX10_finish 11 = .ok (.iload_n 2, 1) := by decide +kernel
theorem dX10_finish_12 : decode cX10_finish 12 = .ok (.iconst 2, 1) := by decide +kernel
theorem dX10_finish_13 : decode cX10_finish 13 = .ok (.if_icmp .le 5, 3) := by decide +kernel
theorem dX10_finish_16 : decode cX10_finish 16 = .ok (.iconst (-1), 1) := by decide +kernel
theorem dX10_finish_17 : decode cX10_finish 17 = .ok (.ireturn, 1) := by decide +kernel
theorem dX10_finish_18 : decode cX10_finish 18 = .ok (.aload_n 0, 1) := by decide +kernel
theorem dX10_finish_19 : decode cX10_finish 19 = .ok (.getfield 19, 3) := by decide +kernel
theorem dX10_finish_22 : decode cX10_finish 22 = .ok (.aload_n 0, 1) := by decide +kernel
theorem dX10_finish_23 : decode cX10_finish 23 = .ok (.getfield 10, 3) := by decide +kernel
theorem dX10_finish_26 : decode cX10_finish 26 = .ok (.iload_n 1, 1) := by decide +kernel
theorem dX10_finish_27 : decode cX10_finish 27 = .ok (.aload_n 0, 1) := by decide +kernel
theorem dX10_finish_28 : decode cX10_finish 28 = .ok (.getfield 108, 3) := by decide +kernel
theorem dX10_finish_31 : decode cX10_finish 31 = .ok (.invokevirtual 364, 3) := by decide +kernel
theorem dX10_finish_34 : decode cX10_finish 34 = .ok (.iload_n 2, 1) := by decide +kernel
theorem dX10_finish_35 : decode cX10_finish 35 = .ok (.lookupswitch 41 #[(0, 25), (1, 33)], 25) := by decide +kernel
theorem dX10_finish_60 : decode cX10_finish 60 = .ok (.aload_n 0, 1) := by decide +kernel
theorem dX10_finish_61 : decode cX10_finish 61 = .ok (.getfield 19, 3) := by decide +kernel
theorem dX10_finish_64 : decode cX10_finish 64 = .ok (.getfield 368, 3) := by decide +kernel
theorem dX10_finish_67 : decode cX10_finish 67 = .ok (.ireturn, 1) := by decide +kernel
theorem dX10_finish_68 : decode cX10_finish 68 = .ok (.aload_n 0, 1) := by decide +kernel
theorem dX10_finish_69 : decode cX10_finish 69 = .ok (.getfield 19, 3) := by decide +kernel
theorem dX10_finish_72 : decode cX10_finish 72 = .ok (.getfield 371, 3) := by decide +kernel
theorem dX10_finish_75 : decode cX10_finish 75 = .ok (.ireturn, 1) := by decide +kernel
theorem dX10_finish_76 : decode cX10_finish 76 = .ok (.aload_n 0, 1) := by decide +kernel
theorem dX10_finish_77 : decode cX10_finish 77 = .ok (.getfield 19, 3) := by decide +kernel
theorem dX10_finish_80 : decode cX10_finish 80 = .ok (.getfield 374, 3) := by decide +kernel
theorem dX10_finish_83 : decode cX10_finish 83 = .ok (.ireturn, 1) := by decide +kernel
theorem dX10_empties_0 : decode cX10_empties 0 = .ok (.aload_n 0, 1) := by decide +kernel
theorem dX10_empties_1 : decode cX10_empties 1 = .ok (.getfield 10, 3) := by decide +kernel
theorem dX10_empties_4 : decode cX10_empties 4 = .ok (.iload_n 1, 1) := by decide +kernel
theorem dX10_empties_5 : decode cX10_empties 5 = .ok (.invokevirtual 133, 3) := by decide +kernel
theorem dX10_empties_8 : decode cX10_empties 8 = .ok (.astore_n 3, 1) := by decide +kernel
theorem dX10_empties_9 : decode cX10_empties 9 = .ok (.aload_n 3, 1) := by decide +kernel
theorem dX10_empties_10 : decode cX10_empties 10 = .ok (.ifnull 10, 3) := by decide +kernel
theorem dX10_empties_13 : decode cX10_empties 13 = .ok (.iload_n 2, 1) := by decide +kernel
theorem dX10_empties_14 : decode cX10_empties 14 = .ok (.invokestatic 361, 3) := by decide +kernel
theorem dX10_empties_17 : decode cX10_empties 17 = .ok (.ifCond .ne 5, 3) := by decide +kernel
theorem dX10_empties_20 : decode cX10_empties 20 = .ok (.iconst (-1), 1) := by decide +kernel
theorem dX10_empties_21 : decode cX10_empties 21 = .ok (.ireturn, 1) := by decide +kernel
theorem dX10_empties_22 : decode cX10_empties 22 = .ok (.aload_n 0, 1) := by decide +kernel
theorem dX10_empties_23 : decode cX10_empties 23 = .ok (.getfield 19, 3) := by decide +kernel
theorem dX10_empties_26 : decode cX10_empties 26 = .ok (.aload_n 0, 1) := by decide +kernel
theorem dX10_empties_27 : decode cX10_empties 27 = .ok (.getfield 10, 3) := by decide +kernel
theorem dX10_empties_30 : decode cX10_empties 30 = .ok (.iload_n 2, 1) := by decide +kernel
theorem dX10_empties_31 : decode cX10_empties 31 = .ok (.aload_n 0, 1) := by decide +kernel
theorem dX10_empties_32 : decode cX10_empties 32 = .ok (.getfield 108, 3) := by decide +kernel
theorem dX10_empties_35 : decode cX10_empties 35 = .ok (.invokevirtual 364, 3) := by decide +kernel
theorem dX10_empties_38 : decode cX10_empties 38 = .ok (.aload_n 0, 1) := by decide +kernel
theorem dX10_empties_39 : decode cX10_empties 39 = .ok (.getfield 19, 3) := by decide +kernel
theorem dX10_empties_42 : decode cX10_empties 42 = .ok (.getfield 377, 3) := by decide +kernel
theorem dX10_empties_45 : decode cX10_empties 45 = .ok (.aload_n 3, 1) := by decide +kernel
theorem dX10_empties_46 : decode cX10_empties 46 = .ok (.getfield 345, 3) := by decide +kernel
theorem dX10_empties_49 : decode cX10_empties 49 = .ok (.iaload, 1) := by decide +kernel
theorem dX10_empties_50 : decode cX10_empties 50 = .ok (.ireturn, 1) := by decide +kernel
theorem dX10_enough_0 : decode cX10_enough 0 = .ok (.iload_n 1, 1) := by decide +kernel
theorem dX10_enough_1 : decode cX10_enough 1 = .ok (.ifCond .ge 5, 3) := by decide +kernel
theorem dX10_enough_4 : decode cX10_enough 4 = .ok (.iconst (-1), 1) := by decide +kernel
theorem dX10_enough_5 : decode cX10_enough 5 = .ok (.ireturn, 1) := by decide +kernel
theorem dX10_enough_6 : decode cX10_enough 6 = .ok (.iconst 1, 1) := by decide +kernel
theorem dX10_enough_7 : decode cX10_enough 7 = .ok (.istore_n 2, 1) := by decide +kernel
theorem dX10_enough_8 : decode cX10_enough 8 = .ok (.iload_n 2, 1) := by decide +kernel
theorem dX10_enough_9 : decode cX10_enough 9 = .ok (.bipush 6, 2) := by decide +kernel
theorem dX10_enough_11 : decode cX10_enough 11 = .ok (.if_icmp .gt 38, 3) := by decide +kernel
theorem dX10_enough_14 : decode cX10_enough 14 = .ok (.aload_n 0, 1) := by decide +kernel
theorem dX10_enough_15 : decode cX10_enough 15 = .ok (.getfield 19, 3) := by decide +kernel
theorem dX10_enough_18 : decode cX10_enough 18 = .ok (.aload_n 0, 1) := by decide +kernel
theorem dX10_enough_19 : decode cX10_enough 19 = .ok (.getfield 10, 3) := by decide +kernel
theorem dX10_enough_22 : decode cX10_enough 22 = .ok (.iload_n 2, 1) := by decide +kernel
theorem dX10_enough_23 : decode cX10_enough 23 = .ok (.aload_n 0, 1) := by decide +kernel
theorem dX10_enough_24 : decode cX10_enough 24 = .ok (.getfield 108, 3) := by decide +kernel
theorem dX10_enough_27 : decode cX10_enough 27 = .ok (.invokevirtual 364, 3) := by decide +kernel
theorem dX10_enough_30 : decode cX10_enough 30 = .ok (.aload_n 0, 1) := by decide +kernel
theorem dX10_enough_31 : decode cX10_enough 31 = .ok (.getfield 19, 3) := by decide +kernel
theorem dX10_enough_34 : decode cX10_enough 34 = .ok (.getfield 368, 3) := by decide +kernel
theorem dX10_enough_37 : decode cX10_enough 37 = .ok (.iload_n 1, 1) := by decide +kernel
theorem dX10_enough_38 : decode cX10_enough 38 = .ok (.if_icmp .gt 5, 3) := by decide +kernel
theorem dX10_enough_41 : decode cX10_enough 41 = .ok (.iload_n 2, 1) := by decide +kernel
theorem dX10_enough_42 : decode cX10_enough 42 = .ok (.ireturn, 1) := by decide +kernel
theorem dX10_enough_43 : decode cX10_enough 43 = .ok (.iinc 2 1, 3) := by decide +kernel
theorem dX10_enough_46 : decode cX10_enough 46 = .ok (.goto (-38), 3) := by decide +kernel
theorem dX10_enough_49 : decode cX10_enough 49 = .ok (.iconst (-1), 1) := by decide +kernel
theorem dX10_enough_50 : decode cX10_enough 50 = .ok (.ireturn, 1) := by decide +kernel
theorem dX10_hangs_0 : decode cX10_hangs 0 = .ok (.aload_n 0, 1) := by decide +kernel
theorem dX10_hangs_1 : decode cX10_hangs 1 = .ok (.iload_n 1, 1) := by decide +kernel
theorem dX10_hangs_2 : decode cX10_hangs 2 = .ok (.invokevirtual 171, 3) := by decide +kernel
theorem dX10_hangs_5 : decode cX10_hangs 5 = .ok (.astore_n 2, 1) := by decide +kernel
theorem dX10_hangs_6 : decode cX10_hangs 6 = .ok (.aload_n 2, 1) := by decide +kernel
theorem dX10_hangs_7 : decode cX10_hangs 7 = .ok (.ifnonnull 5, 3) := by decide +kernel
theorem dX10_hangs_10 : decode cX10_hangs 10 = .ok (.iconst (-1), 1) := by decide +kernel
theorem dX10_hangs_11 : decode cX10_hangs 11 = .ok (.ireturn, 1) := by decide +kernel
theorem dX10_hangs_12 : decode cX10_hangs 12 = .ok (.iconst 0, 1) := by decide +kernel
theorem dX10_hangs_13 : decode cX10_hangs 13 = .ok (.istore_n 3, 1) := by decide +kernel
theorem dX10_hangs_14 : decode cX10_hangs 14 = .ok (.aload_n 2, 1) := by decide +kernel
theorem dX10_hangs_15 : decode cX10_hangs 15 = .ok (.getfield 95, 3) := by decide +kernel
theorem dX10_hangs_18 : decode cX10_hangs 18 = .ok (.iconst 1, 1) := by decide +kernel
theorem dX10_hangs_19 : decode cX10_hangs 19 = .ok (.iadd, 1) := by decide +kernel
theorem dX10_hangs_20 : decode cX10_hangs 20 = .ok (.istore 4, 2) := by decide +kernel
theorem dX10_hangs_22 : decode cX10_hangs 22 = .ok (.iload 4, 2) := by decide +kernel
theorem dX10_hangs_24 : decode cX10_hangs 24 = .ok (.aload_n 0, 1) := by decide +kernel
theorem dX10_hangs_25 : decode cX10_hangs 25 = .ok (.getfield 28, 3) := by decide +kernel
theorem dX10_hangs_28 : decode cX10_hangs 28 = .ok (.getfield 222, 3) := by decide +kernel
theorem dX10_hangs_31 : decode cX10_hangs 31 = .ok (.if_icmp .ge 29, 3) := by decide +kernel
theorem dX10_hangs_34 : decode cX10_hangs 34 = .ok (.aload_n 0, 1) := by decide +kernel
theorem dX10_hangs_35 : decode cX10_hangs 35 = .ok (.getfield 28, 3) := by decide +kernel
theorem dX10_hangs_38 : decode cX10_hangs 38 = .ok (.getfield 380, 3) := by decide +kernel
theorem dX10_hangs_41 : decode cX10_hangs 41 = .ok (.iload 4, 2) := by decide +kernel
theorem dX10_hangs_43 : decode cX10_hangs 43 = .ok (.aaload, 1) := by decide +kernel
theorem dX10_hangs_44 : decode cX10_hangs 44 = .ok (.aload_n 2, 1) := by decide +kernel
theorem dX10_hangs_45 : decode cX10_hangs 45 = .ok (.invokestatic 384, 3) := by decide +kernel
theorem dX10_hangs_48 : decode cX10_hangs 48 = .ok (.ifCond .eq 6, 3) := by decide +kernel
theorem dX10_hangs_51 : decode cX10_hangs 51 = .ok (.iinc 3 1, 3) := by decide +kernel
theorem dX10_hangs_54 : decode cX10_hangs 54 = .ok (.iinc 4 1, 3) := by decide +kernel
theorem dX10_hangs_57 : decode cX10_hangs 57 = .ok (.goto (-35), 3) := by decide +kernel
theorem dX10_hangs_60 : decode cX10_hangs 60 = .ok (.iload_n 3, 1) := by decide +kernel
theorem dX10_hangs_61 : decode cX10_hangs 61 = .ok (.ireturn, 1) := by decide +kernel
theorem dX10_spread_0 : decode cX10_spread 0 = .ok (.aload_n 0, 1) := by decide +kernel
theorem dX10_spread_1 : decode cX10_spread 1 = .ok (.getfield 10, 3) := by decide +kernel
theorem dX10_spread_4 : decode cX10_spread 4 = .ok (.iconst 0, 1) := by decide +kernel
theorem dX10_spread_5 : decode cX10_spread 5 = .ok (.invokevirtual 388, 3) := by decide +kernel
theorem dX10_spread_8 : decode cX10_spread 8 = .ok (.astore_n 2, 1) := by decide +kernel
theorem dX10_spread_9 : decode cX10_spread 9 = .ok (.aload_n 0, 1) := by decide +kernel
theorem dX10_spread_10 : decode cX10_spread 10 = .ok (.getfield 10, 3) := by decide +kernel
theorem dX10_spread_13 : decode cX10_spread 13 = .ok (.invokevirtual 392, 3) := by decide +kernel
theorem dX10_spread_16 : decode cX10_spread 16 = .ok (.astore_n 3, 1) := by decide +kernel
theorem dX10_spread_17 : decode cX10_spread 17 = .ok (.aload_n 2, 1) := by decide +kernel
theorem dX10_spread_18 : decode cX10_spread 18 = .ok (.ifnull 7, 3) := by decide +kernel
theorem dX10_spread_21 : decode cX10_spread 21 = .ok (.aload_n 3, 1) := by decide +kernel
theorem dX10_spread_22 : decode cX10_spread 22 = .ok (.ifnonnull 5, 3) := by decide +kernel
theorem dX10_spread_25 : decode cX10_spread 25 = .ok (.iconst (-1), 1) := by decide +kernel
theorem dX10_spread_26 : decode cX10_spread 26 = .ok (.ireturn, 1) := by decide +kernel
theorem dX10_spread_27 : decode cX10_spread 27 = .ok (.iload_n 1, 1) := by decide +kernel
theorem dX10_spread_28 : decode cX10_spread 28 = .ok (.tableswitch 48 0 2 #[28, 38, 43], 28) := by decide +kernel
theorem dX10_spread_56 : decode cX10_spread 56 = .ok (.aload_n 3, 1) := by decide +kernel
theorem dX10_spread_57 : decode cX10_spread 57 = .ok (.getfield 396, 3) := by decide +kernel
theorem dX10_spread_60 : decode cX10_spread 60 = .ok (.aload_n 2, 1) := by decide +kernel
theorem dX10_spread_61 : decode cX10_spread 61 = .ok (.getfield 396, 3) := by decide +kernel
theorem dX10_spread_64 : decode cX10_spread 64 = .ok (.isub, 1) := by decide +kernel
theorem dX10_spread_65 : decode cX10_spread 65 = .ok (.ireturn, 1) := by decide +kernel
theorem dX10_spread_66 : decode cX10_spread 66 = .ok (.aload_n 3, 1) := by decide +kernel
theorem dX10_spread_67 : decode cX10_spread 67 = .ok (.getfield 345, 3) := by decide +kernel
theorem dX10_spread_70 : decode cX10_spread 70 = .ok (.ireturn, 1) := by decide +kernel
theorem dX10_spread_71 : decode cX10_spread 71 = .ok (.aload_n 2, 1) := by decide +kernel
theorem dX10_spread_72 : decode cX10_spread 72 = .ok (.getfield 345, 3) := by decide +kernel
theorem dX10_spread_75 : decode cX10_spread 75 = .ok (.ireturn, 1) := by decide +kernel
theorem dX10_spread_76 : decode cX10_spread 76 = .ok (.iconst (-1), 1) := by decide +kernel
theorem dX10_spread_77 : decode cX10_spread 77 = .ok (.ireturn, 1) := by decide +kernel
theorem dX10_blamed_0 : decode cX10_blamed 0 = .ok (.iload_n 1, 1) := by decide +kernel
theorem dX10_blamed_1 : decode cX10_blamed 1 = .ok (.ifCond .lt 9, 3) := by decide +kernel
theorem dX10_blamed_4 : decode cX10_blamed 4 = .ok (.iload_n 1, 1) := by decide +kernel
theorem dX10_blamed_5 : decode cX10_blamed 5 = .ok (.bipush 101, 2) := by decide +kernel
theorem dX10_blamed_7 : decode cX10_blamed 7 = .ok (.if_icmp .le 7, 3) := by decide +kernel
theorem dX10_blamed_10 : decode cX10_blamed 10 = .ok (.iconst (-1), 1) := by decide +kernel
theorem dX10_blamed_11 : decode cX10_blamed 11 = .ok (.goto 8, 3) := by decide +kernel
theorem dX10_blamed_14 : decode cX10_blamed 14 = .ok (.aload_n 0, 1) := by decide +kernel
theorem dX10_blamed_15 : decode cX10_blamed 15 = .ok (.iload_n 1, 1) := by decide +kernel
theorem dX10_blamed_16 : decode cX10_blamed 16 = .ok (.invokevirtual 399, 3) := by decide +kernel
theorem dX10_blamed_19 : decode cX10_blamed 19 = .ok (.ireturn, 1) := by decide +kernel
theorem dX10_worst_0 : decode cX10_worst 0 = .ok (.iconst (-1), 1) := by decide +kernel
theorem dX10_worst_1 : decode cX10_worst 1 = .ok (.istore_n 1, 1) := by decide +kernel
theorem dX10_worst_2 : decode cX10_worst 2 = .ok (.iconst 0, 1) := by decide +kernel
theorem dX10_worst_3 : decode cX10_worst 3 = .ok (.istore_n 2, 1) := by decide +kernel
theorem dX10_worst_4 : decode cX10_worst 4 = .ok (.iconst 0, 1) := by decide +kernel
theorem dX10_worst_5 : decode cX10_worst 5 = .ok (.istore_n 3, 1) := by decide +kernel
theorem dX10_worst_6 : decode cX10_worst 6 = .ok (.iload_n 3, 1) := by decide +kernel
theorem dX10_worst_7 : decode cX10_worst 7 = .ok (.bipush 101, 2) := by decide +kernel
theorem dX10_worst_9 : decode cX10_worst 9 = .ok (.if_icmp .gt 37, 3) := by decide +kernel
theorem dX10_worst_12 : decode cX10_worst 12 = .ok (.aload_n 0, 1) := by decide +kernel
theorem dX10_worst_13 : decode cX10_worst 13 = .ok (.getfield 32, 3) := by decide +kernel
theorem dX10_worst_16 : decode cX10_worst 16 = .ok (.getfield 222, 3) := by decide +kernel
theorem dX10_worst_19 : decode cX10_worst 19 = .ok (.ifCond .le 27, 3) := by decide +kernel
theorem dX10_worst_22 : decode cX10_worst 22 = .ok (.aload_n 0, 1) := by decide +kernel
theorem dX10_worst_23 : decode cX10_worst 23 = .ok (.iload_n 3, 1) := by decide +kernel
theorem dX10_worst_24 : decode cX10_worst 24 = .ok (.invokevirtual 399, 3) := by decide +kernel
theorem dX10_worst_27 : decode cX10_worst 27 = .ok (.istore 4, 2) := by decide +kernel
theorem dX10_worst_29 : decode cX10_worst 29 = .ok (.iload 4, 2) := by decide +kernel
theorem dX10_worst_31 : decode cX10_worst 31 = .ok (.iload_n 2, 1) := by decide +kernel
theorem dX10_worst_32 : decode cX10_worst 32 = .ok (.if_icmp .le 8, 3) := by decide +kernel
theorem dX10_worst_35 : decode cX10_worst 35 = .ok (.iload_n 3, 1) := by decide +kernel
theorem dX10_worst_36 : decode cX10_worst 36 = .ok (.istore_n 1, 1) := by decide +kernel
theorem dX10_worst_37 : decode cX10_worst 37 = .ok (.iload 4, 2) := by decide +kernel
theorem dX10_worst_39 : decode cX10_worst 39 = .ok (.istore_n 2, 1) := by decide +kernel
theorem dX10_worst_40 : decode cX10_worst 40 = .ok (.iinc 3 1, 3) := by decide +kernel
theorem dX10_worst_43 : decode cX10_worst 43 = .ok (.goto (-37), 3) := by decide +kernel
theorem dX10_worst_46 : decode cX10_worst 46 = .ok (.iload_n 1, 1) := by decide +kernel
theorem dX10_worst_47 : decode cX10_worst 47 = .ok (.ireturn, 1) := by decide +kernel
theorem dX10_log_0 : decode cX10_log 0 = .ok (.aload_n 0, 1) := by decide +kernel
theorem dX10_log_1 : decode cX10_log 1 = .ok (.getfield 61, 3) := by decide +kernel
theorem dX10_log_4 : decode cX10_log 4 = .ok (.iload_n 1, 1) := by decide +kernel
theorem dX10_log_5 : decode cX10_log 5 = .ok (.iload_n 2, 1) := by decide +kernel
theorem dX10_log_6 : decode cX10_log 6 = .ok (.invokevirtual 402, 3) := by decide +kernel
theorem dX10_log_9 : decode cX10_log 9 = .ok (.ireturn, 1) := by decide +kernel
theorem dX10_counted_0 : decode cX10_counted 0 = .ok (.iload_n 1, 1) := by decide +kernel
theorem dX10_counted_1 : decode cX10_counted 1 = .ok (.iconst (-1), 1) := by decide +kernel
theorem dX10_counted_2 : decode cX10_counted 2 = .ok (.if_icmp .ge 13, 3) := by decide +kernel
theorem dX10_counted_5 : decode cX10_counted 5 = .ok (.aload_n 0, 1) := by decide +kernel
theorem dX10_counted_6 : decode cX10_counted 6 = .ok (.dup, 1) := by decide +kernel
theorem dX10_counted_7 : decode cX10_counted 7 = .ok (.getfield 256, 3) := by decide +kernel
theorem dX10_counted_10 : decode cX10_counted 10 = .ok (.iconst 1, 1) := by decide +kernel
theorem dX10_counted_11 : decode cX10_counted 11 = .ok (.iadd, 1) := by decide +kernel
theorem dX10_counted_12 : decode cX10_counted 12 = .ok (.putfield 256, 3) := by decide +kernel
theorem dX10_counted_15 : decode cX10_counted 15 = .ok (.iload_n 1, 1) := by decide +kernel
theorem dX10_counted_16 : decode cX10_counted 16 = .ok (.ireturn, 1) := by decide +kernel
theorem dX10_comeIfCan_0 : decode cX10_comeIfCan 0 = .ok (.aload_n 0, 1) := by decide +kernel
theorem dX10_comeIfCan_1 : decode cX10_comeIfCan 1 = .ok (.getfield 10, 3) := by decide +kernel
theorem dX10_comeIfCan_4 : decode cX10_comeIfCan 4 = .ok (.iload_n 1, 1) := by decide +kernel
theorem dX10_comeIfCan_5 : decode cX10_comeIfCan 5 = .ok (.invokevirtual 133, 3) := by decide +kernel
theorem dX10_comeIfCan_8 : decode cX10_comeIfCan 8 = .ok (.astore 6, 2) := by decide +kernel
theorem dX10_comeIfCan_10 : decode cX10_comeIfCan 10 = .ok (.aload 6, 2) := by decide +kernel
theorem dX10_comeIfCan_12 : decode cX10_comeIfCan 12 = .ok (.ifnull 13, 3) := by decide +kernel
theorem dX10_comeIfCan_15 : decode cX10_comeIfCan 15 = .ok (.iload_n 2, 1) := by decide +kernel
theorem dX10_comeIfCan_16 : decode cX10_comeIfCan 16 = .ok (.iload_n 3, 1) := by decide +kernel
theorem dX10_comeIfCan_17 : decode cX10_comeIfCan 17 = .ok (.iload 4, 2) := by decide +kernel
theorem dX10_comeIfCan_19 : decode cX10_comeIfCan 19 = .ok (.invokestatic 137, 3) := by decide +kernel
theorem dX10_comeIfCan_22 : decode cX10_comeIfCan 22 = .ok (.ifCond .ne 6, 3) := by decide +kernel
theorem dX10_comeIfCan_25 : decode cX10_comeIfCan 25 = .ok (.bipush (-2), 2) := by decide +kernel
theorem dX10_comeIfCan_27 : decode cX10_comeIfCan 27 = .ok (.ireturn, 1) := by decide +kernel
theorem dX10_comeIfCan_28 : decode cX10_comeIfCan 28 = .ok (.aload_n 0, 1) := by decide +kernel
theorem dX10_comeIfCan_29 : decode cX10_comeIfCan 29 = .ok (.iload 5, 2) := by decide +kernel
theorem dX10_comeIfCan_31 : decode cX10_comeIfCan 31 = .ok (.invokevirtual 171, 3) := by decide +kernel
theorem dX10_comeIfCan_34 : decode cX10_comeIfCan 34 = .ok (.astore 7, 2) := by decide +kernel
theorem dX10_comeIfCan_36 : decode cX10_comeIfCan 36 = .ok (.iload 5, 2) := by decide +kernel
theorem dX10_comeIfCan_38 : decode cX10_comeIfCan 38 = .ok (.iconst (-1), 1) := by decide +kernel
theorem dX10_comeIfCan_39 : decode cX10_comeIfCan 39 = .ok (.if_icmp .eq 21, 3) := by decide +kernel
theorem dX10_comeIfCan_42 : decode cX10_comeIfCan 42 = .ok (.aload 7, 2) := by decide +kernel
theorem dX10_comeIfCan_44 : decode cX10_comeIfCan 44 = .ok (.ifnull 13, 3) := by decide +kernel
theorem dX10_comeIfCan_47 : decode cX10_comeIfCan 47 = .ok (.aload 7, 2) := by decide +kernel
theorem dX10_comeIfCan_49 : decode cX10_comeIfCan 49 = .ok (.getfield 105, 3) := by decide +kernel
theorem dX10_comeIfCan_52 : decode cX10_comeIfCan 52 = .ok (.bipush 6, 2) := by decide +kernel
theorem dX10_comeIfCan_54 : decode cX10_comeIfCan 54 = .ok (.if_icmp .ne 6, 3) := by decide +kernel
theorem dX10_comeIfCan_57 : decode cX10_comeIfCan 57 = .ok (.bipush (-2), 2) := by decide +kernel
theorem dX10_comeIfCan_59 : decode cX10_comeIfCan 59 = .ok (.ireturn, 1) := by decide +kernel
theorem dX10_comeIfCan_60 : decode cX10_comeIfCan 60 = .ok (.aload_n 0, 1) := by decide +kernel
theorem dX10_comeIfCan_61 : decode cX10_comeIfCan 61 = .ok (.aload 6, 2) := by decide +kernel
theorem dX10_comeIfCan_63 : decode cX10_comeIfCan 63 = .ok (.iload 4, 2) := by decide +kernel
theorem dX10_comeIfCan_65 : decode cX10_comeIfCan 65 = .ok (.aload 7, 2) := by decide +kernel
theorem dX10_comeIfCan_67 : decode cX10_comeIfCan 67 = .ok (.invokevirtual 405, 3) := by decide +kernel
theorem dX10_comeIfCan_70 : decode cX10_comeIfCan 70 = .ok (.istore 8, 2) := by decide +kernel
theorem dX10_comeIfCan_72 : decode cX10_comeIfCan 72 = .ok (.iload 8, 2) := by decide +kernel
theorem dX10_comeIfCan_74 : decode cX10_comeIfCan 74 = .ok (.iconst (-1), 1) := by decide +kernel
theorem dX10_comeIfCan_75 : decode cX10_comeIfCan 75 = .ok (.if_icmp .ge 6, 3) := by decide +kernel
theorem dX10_comeIfCan_78 : decode cX10_comeIfCan 78 = .ok (.iload 8, 2) := by decide +kernel
theorem dX10_comeIfCan_80 : decode cX10_comeIfCan 80 = .ok (.ireturn, 1) := by decide +kernel
theorem dX10_comeIfCan_81 : decode cX10_comeIfCan 81 = .ok (.new 96, 3) := by decide +kernel
theorem dX10_comeIfCan_84 : decode cX10_comeIfCan 84 = .ok (.dup, 1) := by decide +kernel
theorem dX10_comeIfCan_85 : decode cX10_comeIfCan 85 = .ok (.aload_n 0, 1) := by decide +kernel
theorem dX10_comeIfCan_86 : decode cX10_comeIfCan 86 = .ok (.getfield 28, 3) := by decide +kernel
theorem dX10_comeIfCan_89 : decode cX10_comeIfCan 89 = .ok (.getfield 222, 3) := by decide +kernel
theorem dX10_comeIfCan_92 : decode cX10_comeIfCan 92 = .ok (.aload 6, 2) := by decide +kernel
theorem dX10_comeIfCan_94 : decode cX10_comeIfCan 94 = .ok (.aload 7, 2) := by decide +kernel
theorem dX10_comeIfCan_96 : decode cX10_comeIfCan 96 = .ok (.invokespecial 409, 3) := by decide +kernel
theorem dX10_comeIfCan_99 : decode cX10_comeIfCan 99 = .ok (.astore 9, 2) := by decide +kernel
theorem dX10_comeIfCan_101 : decode cX10_comeIfCan 101 = .ok (.aload 9, 2) := by decide +kernel
theorem dX10_comeIfCan_103 : decode cX10_comeIfCan 103 = .ok (.iload_n 2, 1) := by decide +kernel
theorem dX10_comeIfCan_104 : decode cX10_comeIfCan 104 = .ok (.putfield 412, 3) := by decide +kernel
theorem dX10_comeIfCan_107 : decode cX10_comeIfCan 107 = .ok (.aload 9, 2) := by decide +kernel
theorem dX10_comeIfCan_109 : decode cX10_comeIfCan 109 = .ok (.iload_n 3, 1) := by decide +kernel
theorem dX10_comeIfCan_110 : decode cX10_comeIfCan 110 = .ok (.putfield 346, 3) := by decide +kernel
theorem dX10_comeIfCan_113 : decode cX10_comeIfCan 113 = .ok (.aload 9, 2) := by decide +kernel
theorem dX10_comeIfCan_115 : decode cX10_comeIfCan 115 = .ok (.iload 4, 2) := by decide +kernel
theorem dX10_comeIfCan_117 : decode cX10_comeIfCan 117 = .ok (.putfield 415, 3) := by decide +kernel
theorem dX10_comeIfCan_120 : decode cX10_comeIfCan 120 = .ok (.aload 9, 2) := by decide +kernel
theorem dX10_comeIfCan_122 : decode cX10_comeIfCan 122 = .ok (.aload_n 0, 1) := by decide +kernel
theorem dX10_comeIfCan_123 : decode cX10_comeIfCan 123 = .ok (.getfield 108, 3) := by decide +kernel
theorem dX10_comeIfCan_126 : decode cX10_comeIfCan 126 = .ok (.putfield 418, 3) := by decide +kernel
theorem dX10_comeIfCan_129 : decode cX10_comeIfCan 129 = .ok (.aload_n 0, 1) := by decide +kernel
theorem dX10_comeIfCan_130 : decode cX10_comeIfCan 130 = .ok (.getfield 28, 3) := by decide +kernel
theorem dX10_comeIfCan_133 : decode cX10_comeIfCan 133 = .ok (.aload 9, 2) := by decide +kernel
theorem dX10_comeIfCan_135 : decode cX10_comeIfCan 135 = .ok (.invokevirtual 419, 3) := by decide +kernel
theorem dX10_comeIfCan_138 : decode cX10_comeIfCan 138 = .ok (.aload_n 0, 1) := by decide +kernel
theorem dX10_comeIfCan_139 : decode cX10_comeIfCan 139 = .ok (.iconst 0, 1) := by decide +kernel
theorem dX10_comeIfCan_140 : decode cX10_comeIfCan 140 = .ok (.aload 9, 2) := by decide +kernel
theorem dX10_comeIfCan_142 : decode cX10_comeIfCan 142 = .ok (.aconst_null, 1) := by decide +kernel
theorem dX10_comeIfCan_143 : decode cX10_comeIfCan 143 = .ok (.iconst 0, 1) := by decide +kernel
theorem dX10_comeIfCan_144 : decode cX10_comeIfCan 144 = .ok (.invokevirtual 181, 3) := by decide +kernel
theorem dX10_comeIfCan_147 : decode cX10_comeIfCan 147 = .ok (.aload_n 0, 1) := by decide +kernel
theorem dX10_comeIfCan_148 : decode cX10_comeIfCan 148 = .ok (.getfield 10, 3) := by decide +kernel
theorem dX10_comeIfCan_151 : decode cX10_comeIfCan 151 = .ok (.aload 9, 2) := by decide +kernel
theorem dX10_comeIfCan_153 : decode cX10_comeIfCan 153 = .ok (.invokevirtual 219, 3) := by decide +kernel
theorem dX10_comeIfCan_156 : decode cX10_comeIfCan 156 = .ok (.aload 9, 2) := by decide +kernel
theorem dX10_comeIfCan_158 : decode cX10_comeIfCan 158 = .ok (.getfield 95, 3) := by decide +kernel
theorem dX10_comeIfCan_161 : decode cX10_comeIfCan 161 = .ok (.ireturn, 1) := by decide +kernel
theorem dX10_whyNotCome_0 : decode cX10_whyNotCome 0 = .ok (.aload_n 1, 1) := by decide +kernel
theorem dX10_whyNotCome_1 : decode cX10_whyNotCome 1 = .ok (.getfield 160, 3) := by decide +kernel
theorem dX10_whyNotCome_4 : decode cX10_whyNotCome 4 = .ok (.ifCond .ne 15, 3) := by decide +kernel
theorem dX10_whyNotCome_7 : decode cX10_whyNotCome 7 = .ok (.aload_n 3, 1) := by decide +kernel
theorem dX10_whyNotCome_8 : decode cX10_whyNotCome 8 = .ok (.ifnull 14, 3) := by decide +kernel
theorem dX10_whyNotCome_11 : decode cX10_whyNotCome 11 = .ok (.aload_n 3, 1) := by decide +kernel
theorem dX10_whyNotCome_12 : decode cX10_whyNotCome 12 = .ok (.getfield 105, 3) := by decide +kernel
theorem dX10_whyNotCome_15 : decode cX10_whyNotCome 15 = .ok (.iconst 5, 1) := by decide +kernel
theorem dX10_whyNotCome_16 : decode cX10_whyNotCome 16 = .ok (.if_icmp .ne 6, 3) := by decide +kernel
theorem dX10_whyNotCome_19 : decode cX10_whyNotCome 19 = .ok (.bipush (-3), 2) := by decide +kernel
theorem dX10_whyNotCome_21 : decode cX10_whyNotCome 21 = .ok (.ireturn, 1) := by decide +kernel
theorem dX10_whyNotCome_22 : decode cX10_whyNotCome 22 = .ok (.aload_n 0, 1) := by decide +kernel
theorem dX10_whyNotCome_23 : decode cX10_whyNotCome 23 = .ok (.getfield 10, 3) := by decide +kernel
theorem dX10_whyNotCome_26 : decode cX10_whyNotCome 26 = .ok (.aload_n 1, 1) := by decide +kernel
theorem dX10_whyNotCome_27 : decode cX10_whyNotCome 27 = .ok (.invokevirtual 422, 3) := by decide +kernel
theorem dX10_whyNotCome_30 : decode cX10_whyNotCome 30 = .ok (.ifCond .ne 6, 3) := by decide +kernel
theorem dX10_whyNotCome_33 : decode cX10_whyNotCome 33 = .ok (.bipush (-4), 2) := by decide +kernel
theorem dX10_whyNotCome_35 : decode cX10_whyNotCome 35 = .ok (.ireturn, 1) := by decide +kernel
theorem dX10_whyNotCome_36 : decode cX10_whyNotCome 36 = .ok (.aload_n 0, 1) := by decide +kernel
theorem dX10_whyNotCome_37 : decode cX10_whyNotCome 37 = .ok (.getfield 10, 3) := by decide +kernel
theorem dX10_whyNotCome_40 : decode cX10_whyNotCome 40 = .ok (.iload_n 2, 1) := by decide +kernel
theorem dX10_whyNotCome_41 : decode cX10_whyNotCome 41 = .ok (.invokevirtual 286, 3) := by decide +kernel
theorem dX10_whyNotCome_44 : decode cX10_whyNotCome 44 = .ok (.ifnull 6, 3) := by decide +kernel
theorem dX10_whyNotCome_47 : decode cX10_whyNotCome 47 = .ok (.bipush (-5), 2) := by decide +kernel
theorem dX10_whyNotCome_49 : decode cX10_whyNotCome 49 = .ok (.ireturn, 1) := by decide +kernel
theorem dX10_whyNotCome_50 : decode cX10_whyNotCome 50 = .ok (.aload_n 0, 1) := by decide +kernel
theorem dX10_whyNotCome_51 : decode cX10_whyNotCome 51 = .ok (.getfield 28, 3) := by decide +kernel
theorem dX10_whyNotCome_54 : decode cX10_whyNotCome 54 = .ok (.getfield 222, 3) := by decide +kernel
theorem dX10_whyNotCome_57 : decode cX10_whyNotCome 57 = .ok (.sipush 400, 3) := by decide +kernel
theorem dX10_whyNotCome_60 : decode cX10_whyNotCome 60 = .ok (.if_icmp .lt 6, 3) := by decide +kernel
theorem dX10_whyNotCome_63 : decode cX10_whyNotCome 63 = .ok (.bipush (-6), 2) := by decide +kernel
theorem dX10_whyNotCome_65 : decode cX10_whyNotCome 65 = .ok (.ireturn, 1) := by decide +kernel
theorem dX10_whyNotCome_66 : decode cX10_whyNotCome 66 = .ok (.aload_n 0, 1) := by decide +kernel
theorem dX10_whyNotCome_67 : decode cX10_whyNotCome 67 = .ok (.getfield 54, 3) := by decide +kernel
theorem dX10_whyNotCome_70 : decode cX10_whyNotCome 70 = .ok (.iload_n 2, 1) := by decide +kernel
theorem dX10_whyNotCome_71 : decode cX10_whyNotCome 71 = .ok (.invokevirtual 238, 3) := by decide +kernel
theorem dX10_whyNotCome_74 : decode cX10_whyNotCome 74 = .ok (.aload_n 0, 1) := by decide +kernel
theorem dX10_whyNotCome_75 : decode cX10_whyNotCome 75 = .ok (.getfield 10, 3) := by decide +kernel
theorem dX10_whyNotCome_78 : decode cX10_whyNotCome 78 = .ok (.getfield 111, 3) := by decide +kernel
theorem dX10_whyNotCome_81 : decode cX10_whyNotCome 81 = .ok (.iconst 5, 1) := by decide +kernel
theorem dX10_whyNotCome_82 : decode cX10_whyNotCome 82 = .ok (.iaload, 1) := by decide +kernel
theorem dX10_whyNotCome_83 : decode cX10_whyNotCome 83 = .ok (.if_icmp .lt 8, 3) := by decide +kernel
theorem dX10_whyNotCome_86 : decode cX10_whyNotCome 86 = .ok (.bipush (-7), 2) := by decide +kernel
theorem dX10_whyNotCome_88 : decode cX10_whyNotCome 88 = .ok (.goto 4, 3) := by decide +kernel
theorem dX10_whyNotCome_91 : decode cX10_whyNotCome 91 = .ok (.iconst 0, 1) := by decide +kernel
theorem dX10_whyNotCome_92 : decode cX10_whyNotCome 92 = .ok (.ireturn, 1) := by decide +kernel
theorem dX10_whyNotAgain_0 : decode cX10_whyNotAgain 0 = .ok (.aload_n 1, 1) := by decide +kernel
theorem dX10_whyNotAgain_1 : decode cX10_whyNotAgain 1 = .ok (.getfield 105, 3) := by decide +kernel
theorem dX10_whyNotAgain_4 : decode cX10_whyNotAgain 4 = .ok (.iconst 5, 1) := by decide +kernel
theorem dX10_whyNotAgain_5 : decode cX10_whyNotAgain 5 = .ok (.if_icmp .ne 20, 3) := by decide +kernel
theorem dX10_whyNotAgain_8 : decode cX10_whyNotAgain 8 = .ok (.aload_n 1, 1) := by decide +kernel
theorem dX10_whyNotAgain_9 : decode cX10_whyNotAgain 9 = .ok (.getfield 191, 3) := by decide +kernel
theorem dX10_whyNotAgain_12 : decode cX10_whyNotAgain 12 = .ok (.getfield 160, 3) := by decide +kernel
theorem dX10_whyNotAgain_15 : decode cX10_whyNotAgain 15 = .ok (.ifCond .ne 10, 3) := by decide +kernel
theorem dX10_whyNotAgain_18 : decode cX10_whyNotAgain 18 = .ok (.aload_n 1, 1) := by decide +kernel
theorem dX10_whyNotAgain_19 : decode cX10_whyNotAgain 19 = .ok (.invokevirtual 426, 3) := by decide +kernel
theorem dX10_whyNotAgain_22 : decode cX10_whyNotAgain 22 = .ok (.ifCond .eq 6, 3) := by decide +kernel
theorem dX10_whyNotAgain_25 : decode cX10_whyNotAgain 25 = .ok (.bipush (-3), 2) := by decide +kernel
theorem dX10_whyNotAgain_27 : decode cX10_whyNotAgain 27 = .ok (.ireturn, 1) := by decide +kernel
theorem dX10_whyNotAgain_28 : decode cX10_whyNotAgain 28 = .ok (.aload_n 0, 1) := by decide +kernel
theorem dX10_whyNotAgain_29 : decode cX10_whyNotAgain 29 = .ok (.getfield 10, 3) := by decide +kernel
theorem dX10_whyNotAgain_32 : decode cX10_whyNotAgain 32 = .ok (.aload_n 1, 1) := by decide +kernel
theorem dX10_whyNotAgain_33 : decode cX10_whyNotAgain 33 = .ok (.getfield 191, 3) := by decide +kernel
theorem dX10_whyNotAgain_36 : decode cX10_whyNotAgain 36 = .ok (.invokevirtual 422, 3) := by decide +kernel
theorem dX10_whyNotAgain_39 : decode cX10_whyNotAgain 39 = .ok (.ifCond .ne 6, 3) := by decide +kernel
theorem dX10_whyNotAgain_42 : decode cX10_whyNotAgain 42 = .ok (.bipush (-4), 2) := by decide +kernel
theorem dX10_whyNotAgain_44 : decode cX10_whyNotAgain 44 = .ok (.ireturn, 1) := by decide +kernel
theorem dX10_whyNotAgain_45 : decode cX10_whyNotAgain 45 = .ok (.aload_n 0, 1) := by decide +kernel
theorem dX10_whyNotAgain_46 : decode cX10_whyNotAgain 46 = .ok (.getfield 10, 3) := by decide +kernel
theorem dX10_whyNotAgain_49 : decode cX10_whyNotAgain 49 = .ok (.aload_n 1, 1) := by decide +kernel
theorem dX10_whyNotAgain_50 : decode cX10_whyNotAgain 50 = .ok (.getfield 415, 3) := by decide +kernel
theorem dX10_whyNotAgain_53 : decode cX10_whyNotAgain 53 = .ok (.invokevirtual 286, 3) := by decide +kernel
theorem dX10_whyNotAgain_56 : decode cX10_whyNotAgain 56 = .ok (.ifnull 6, 3) := by decide +kernel
theorem dX10_whyNotAgain_59 : decode cX10_whyNotAgain 59 = .ok (.bipush (-5), 2) := by decide +kernel
theorem dX10_whyNotAgain_61 : decode cX10_whyNotAgain 61 = .ok (.ireturn, 1) := by decide +kernel
theorem dX10_whyNotAgain_62 : decode cX10_whyNotAgain 62 = .ok (.aload_n 0, 1) := by decide +kernel
theorem dX10_whyNotAgain_63 : decode cX10_whyNotAgain 63 = .ok (.getfield 54, 3) := by decide +kernel
theorem dX10_whyNotAgain_66 : decode cX10_whyNotAgain 66 = .ok (.aload_n 1, 1) := by decide +kernel
theorem dX10_whyNotAgain_67 : decode cX10_whyNotAgain 67 = .ok (.getfield 415, 3) := by decide +kernel
theorem dX10_whyNotAgain_70 : decode cX10_whyNotAgain 70 = .ok (.invokevirtual 238, 3) := by decide +kernel
theorem dX10_whyNotAgain_73 : decode cX10_whyNotAgain 73 = .ok (.aload_n 0, 1) := by decide +kernel
theorem dX10_whyNotAgain_74 : decode cX10_whyNotAgain 74 = .ok (.getfield 10, 3) := by decide +kernel
theorem dX10_whyNotAgain_77 : decode cX10_whyNotAgain 77 = .ok (.getfield 111, 3) := by decide +kernel
theorem dX10_whyNotAgain_80 : decode cX10_whyNotAgain 80 = .ok (.iconst 5, 1) := by decide +kernel
theorem dX10_whyNotAgain_81 : decode cX10_whyNotAgain 81 = .ok (.iaload, 1) := by decide +kernel
theorem dX10_whyNotAgain_82 : decode cX10_whyNotAgain 82 = .ok (.if_icmp .lt 8, 3) := by decide +kernel
theorem dX10_whyNotAgain_85 : decode cX10_whyNotAgain 85 = .ok (.bipush (-7), 2) := by decide +kernel
theorem dX10_whyNotAgain_87 : decode cX10_whyNotAgain 87 = .ok (.goto 4, 3) := by decide +kernel
theorem dX10_whyNotAgain_90 : decode cX10_whyNotAgain 90 = .ok (.iconst 0, 1) := by decide +kernel
theorem dX10_whyNotAgain_91 : decode cX10_whyNotAgain 91 = .ok (.ireturn, 1) := by decide +kernel
theorem dX10_takeIfCan_0 : decode cX10_takeIfCan 0 = .ok (.aload_n 0, 1) := by decide +kernel
theorem dX10_takeIfCan_1 : decode cX10_takeIfCan 1 = .ok (.iload_n 1, 1) := by decide +kernel
theorem dX10_takeIfCan_2 : decode cX10_takeIfCan 2 = .ok (.invokevirtual 83, 3) := by decide +kernel
theorem dX10_takeIfCan_5 : decode cX10_takeIfCan 5 = .ok (.astore_n 2, 1) := by decide +kernel
theorem dX10_takeIfCan_6 : decode cX10_takeIfCan 6 = .ok (.aload_n 2, 1) := by decide +kernel
theorem dX10_takeIfCan_7 : decode cX10_takeIfCan 7 = .ok (.ifnonnull 6, 3) := by decide +kernel
theorem dX10_takeIfCan_10 : decode cX10_takeIfCan 10 = .ok (.bipush (-2), 2) := by decide +kernel
theorem dX10_takeIfCan_12 : decode cX10_takeIfCan 12 = .ok (.ireturn, 1) := by decide +kernel
theorem dX10_takeIfCan_13 : decode cX10_takeIfCan 13 = .ok (.aload_n 2, 1) := by decide +kernel
theorem dX10_takeIfCan_14 : decode cX10_takeIfCan 14 = .ok (.getfield 125, 3) := by decide +kernel
theorem dX10_takeIfCan_17 : decode cX10_takeIfCan 17 = .ok (.ifnull 6, 3) := by decide +kernel
theorem dX10_takeIfCan_20 : decode cX10_takeIfCan 20 = .ok (.bipush (-3), 2) := by decide +kernel
theorem dX10_takeIfCan_22 : decode cX10_takeIfCan 22 = .ok (.ireturn, 1) := by decide +kernel
theorem dX10_takeIfCan_23 : decode cX10_takeIfCan 23 = .ok (.aload_n 0, 1) := by decide +kernel
theorem dX10_takeIfCan_24 : decode cX10_takeIfCan 24 = .ok (.getfield 10, 3) := by decide +kernel
theorem dX10_takeIfCan_27 : decode cX10_takeIfCan 27 = .ok (.iconst 1, 1) := by decide +kernel
theorem dX10_takeIfCan_28 : decode cX10_takeIfCan 28 = .ok (.invokevirtual 429, 3) := by decide +kernel
theorem dX10_takeIfCan_31 : decode cX10_takeIfCan 31 = .ok (.astore_n 3, 1) := by decide +kernel
theorem dX10_takeIfCan_32 : decode cX10_takeIfCan 32 = .ok (.aload_n 3, 1) := by decide +kernel
theorem dX10_takeIfCan_33 : decode cX10_takeIfCan 33 = .ok (.ifnonnull 5, 3) := by decide +kernel
theorem dX10_takeIfCan_36 : decode cX10_takeIfCan 36 = .ok (.iconst (-1), 1) := by decide +kernel
theorem dX10_takeIfCan_37 : decode cX10_takeIfCan 37 = .ok (.ireturn, 1) := by decide +kernel
theorem dX10_takeIfCan_38 : decode cX10_takeIfCan 38 = .ok (.aload_n 0, 1) := by decide +kernel
theorem dX10_takeIfCan_39 : decode cX10_takeIfCan 39 = .ok (.dup, 1) := by decide +kernel
theorem dX10_takeIfCan_40 : decode cX10_takeIfCan 40 = .ok (.getfield 259, 3) := by decide +kernel
theorem dX10_takeIfCan_43 : decode cX10_takeIfCan 43 = .ok (.iconst 1, 1) := by decide +kernel
theorem dX10_takeIfCan_44 : decode cX10_takeIfCan 44 = .ok (.iadd, 1) := by decide +kernel
theorem dX10_takeIfCan_45 : decode cX10_takeIfCan 45 = .ok (.putfield 259, 3) := by decide +kernel
theorem dX10_takeIfCan_48 : decode cX10_takeIfCan 48 = .ok (.aload_n 3, 1) := by decide +kernel
theorem dX10_takeIfCan_49 : decode cX10_takeIfCan 49 = .ok (.aload_n 2, 1) := by decide +kernel
theorem dX10_takeIfCan_50 : decode cX10_takeIfCan 50 = .ok (.aload_n 0, 1) := by decide +kernel
theorem dX10_takeIfCan_51 : decode cX10_takeIfCan 51 = .ok (.getfield 259, 3) := by decide +kernel
theorem dX10_takeIfCan_54 : decode cX10_takeIfCan 54 = .ok (.aload_n 0, 1) := by decide +kernel
theorem dX10_takeIfCan_55 : decode cX10_takeIfCan 55 = .ok (.getfield 108, 3) := by decide +kernel
theorem dX10_takeIfCan_58 : decode cX10_takeIfCan 58 = .ok (.aload_n 0, 1) := by decide +kernel
theorem dX10_takeIfCan_59 : decode cX10_takeIfCan 59 = .ok (.getfield 10, 3) := by decide +kernel
theorem dX10_takeIfCan_62 : decode cX10_takeIfCan 62 = .ok (.getfield 111, 3) := by decide +kernel
theorem dX10_takeIfCan_65 : decode cX10_takeIfCan 65 = .ok (.iconst 1, 1) := by decide +kernel
theorem dX10_takeIfCan_66 : decode cX10_takeIfCan 66 = .ok (.iaload, 1) := by decide +kernel
theorem dX10_takeIfCan_67 : decode cX10_takeIfCan 67 = .ok (.iadd, 1) := by decide +kernel
theorem dX10_takeIfCan_68 : decode cX10_takeIfCan 68 = .ok (.invokevirtual 129, 3) := by decide +kernel
theorem dX10_takeIfCan_71 : decode cX10_takeIfCan 71 = .ok (.aload_n 2, 1) := by decide +kernel
theorem dX10_takeIfCan_72 : decode cX10_takeIfCan 72 = .ok (.dup, 1) := by decide +kernel
theorem dX10_takeIfCan_73 : decode cX10_takeIfCan 73 = .ok (.getfield 433, 3) := by decide +kernel
theorem dX10_takeIfCan_76 : decode cX10_takeIfCan 76 = .ok (.iconst 1, 1) := by decide +kernel
theorem dX10_takeIfCan_77 : decode cX10_takeIfCan 77 = .ok (.iadd, 1) := by decide +kernel
theorem dX10_takeIfCan_78 : decode cX10_takeIfCan 78 = .ok (.putfield 433, 3) := by decide +kernel
theorem dX10_takeIfCan_81 : decode cX10_takeIfCan 81 = .ok (.aload_n 3, 1) := by decide +kernel
theorem dX10_takeIfCan_82 : decode cX10_takeIfCan 82 = .ok (.getfield 191, 3) := by decide +kernel
theorem dX10_takeIfCan_85 : decode cX10_takeIfCan 85 = .ok (.aload_n 3, 1) := by decide +kernel
theorem dX10_takeIfCan_86 : decode cX10_takeIfCan 86 = .ok (.aload_n 0, 1) := by decide +kernel
theorem dX10_takeIfCan_87 : decode cX10_takeIfCan 87 = .ok (.getfield 108, 3) := by decide +kernel
theorem dX10_takeIfCan_90 : decode cX10_takeIfCan 90 = .ok (.aload_n 3, 1) := by decide +kernel
theorem dX10_takeIfCan_91 : decode cX10_takeIfCan 91 = .ok (.getfield 418, 3) := by decide +kernel
theorem dX10_takeIfCan_94 : decode cX10_takeIfCan 94 = .ok (.isub, 1) := by decide +kernel
theorem dX10_takeIfCan_95 : decode cX10_takeIfCan 95 = .ok (.invokevirtual 436, 3) := by decide +kernel
theorem dX10_takeIfCan_98 : decode cX10_takeIfCan 98 = .ok (.aload_n 0, 1) := by decide +kernel
theorem dX10_takeIfCan_99 : decode cX10_takeIfCan 99 = .ok (.iconst 1, 1) := by decide +kernel
theorem dX10_takeIfCan_100 : decode cX10_takeIfCan 100 = .ok (.aload_n 3, 1) := by decide +kernel
theorem dX10_takeIfCan_101 : decode cX10_takeIfCan 101 = .ok (.aload_n 2, 1) := by decide +kernel
theorem dX10_takeIfCan_102 : decode cX10_takeIfCan 102 = .ok (.iconst 0, 1) := by decide +kernel
theorem dX10_takeIfCan_103 : decode cX10_takeIfCan 103 = .ok (.invokevirtual 181, 3) := by decide +kernel
theorem dX10_takeIfCan_106 : decode cX10_takeIfCan 106 = .ok (.aload_n 3, 1) := by decide +kernel
theorem dX10_takeIfCan_107 : decode cX10_takeIfCan 107 = .ok (.getfield 95, 3) := by decide +kernel
theorem dX10_takeIfCan_110 : decode cX10_takeIfCan 110 = .ok (.ireturn, 1) := by decide +kernel
theorem dX10_completeTask_0 : decode cX10_completeTask 0 = .ok (.aload_n 1, 1) := by decide +kernel
theorem dX10_completeTask_1 : decode cX10_completeTask 1 = .ok (.invokevirtual 118, 3) := by decide +kernel
theorem dX10_completeTask_4 : decode cX10_completeTask 4 = .ok (.astore_n 2, 1) := by decide +kernel
theorem dX10_completeTask_5 : decode cX10_completeTask 5 = .ok (.aload_n 2, 1) := by decide +kernel
theorem dX10_completeTask_6 : decode cX10_completeTask 6 = .ok (.ifnull 13, 3) := by decide +kernel
theorem dX10_completeTask_9 : decode cX10_completeTask 9 = .ok (.aload_n 2, 1) := by decide +kernel
theorem dX10_completeTask_10 : decode cX10_completeTask 10 = .ok (.dup, 1) := by decide +kernel
theorem dX10_completeTask_11 : decode cX10_completeTask 11 = .ok (.getfield 439, 3) := by decide +kernel
theorem dX10_completeTask_14 : decode cX10_completeTask 14 = .ok (.iconst 1, 1) := by decide +kernel
theorem dX10_completeTask_15 : decode cX10_completeTask 15 = .ok (.iadd, 1) := by decide +kernel
theorem dX10_completeTask_16 : decode cX10_completeTask 16 = .ok (.putfield 439, 3) := by decide +kernel
theorem dX10_completeTask_19 : decode cX10_completeTask 19 = .ok (.aload_n 1, 1) := by decide +kernel
theorem dX10_completeTask_20 : decode cX10_completeTask 20 = .ok (.aload_n 0, 1) := by decide +kernel
theorem dX10_completeTask_21 : decode cX10_completeTask 21 = .ok (.getfield 108, 3) := by decide +kernel
theorem dX10_completeTask_24 : decode cX10_completeTask 24 = .ok (.putfield 442, 3) := by decide +kernel
theorem dX10_completeTask_27 : decode cX10_completeTask 27 = .ok (.aload_n 0, 1) := by decide +kernel
theorem dX10_completeTask_28 : decode cX10_completeTask 28 = .ok (.getfield 10, 3) := by decide +kernel
theorem dX10_completeTask_31 : decode cX10_completeTask 31 = .ok (.aload_n 1, 1) := by decide +kernel
theorem dX10_completeTask_32 : decode cX10_completeTask 32 = .ok (.iconst 4, 1) := by decide +kernel
theorem dX10_completeTask_33 : decode cX10_completeTask 33 = .ok (.invokevirtual 178, 3) := by decide +kernel
theorem dX10_completeTask_36 : decode cX10_completeTask 36 = .ok (.aload_n 0, 1) := by decide +kernel
theorem dX10_completeTask_37 : decode cX10_completeTask 37 = .ok (.iconst 2, 1) := by decide +kernel
theorem dX10_completeTask_38 : decode cX10_completeTask 38 = .ok (.aload_n 1, 1) := by decide +kernel
theorem dX10_completeTask_39 : decode cX10_completeTask 39 = .ok (.aload_n 2, 1) := by decide +kernel
theorem dX10_completeTask_40 : decode cX10_completeTask 40 = .ok (.iconst 0, 1) := by decide +kernel
theorem dX10_completeTask_41 : decode cX10_completeTask 41 = .ok (.invokevirtual 181, 3) := by decide +kernel
theorem dX10_completeTask_44 : decode cX10_completeTask 44 = .ok (.iconst 0, 1) := by decide +kernel
theorem dX10_completeTask_45 : decode cX10_completeTask 45 = .ok (.istore_n 3, 1) := by decide +kernel
theorem dX10_completeTask_46 : decode cX10_completeTask 46 = .ok (.iload_n 3, 1) := by decide +kernel
theorem dX10_completeTask_47 : decode cX10_completeTask 47 = .ok (.bipush 48, 2) := by decide +kernel
theorem dX10_completeTask_49 : decode cX10_completeTask 49 = .ok (.if_icmp .ge 33, 3) := by decide +kernel
theorem dX10_completeTask_52 : decode cX10_completeTask 52 = .ok (.aload_n 0, 1) := by decide +kernel
theorem dX10_completeTask_53 : decode cX10_completeTask 53 = .ok (.getfield 10, 3) := by decide +kernel
theorem dX10_completeTask_56 : decode cX10_completeTask 56 = .ok (.aload_n 1, 1) := by decide +kernel
theorem dX10_completeTask_57 : decode cX10_completeTask 57 = .ok (.invokevirtual 445, 3) := by decide +kernel
theorem dX10_completeTask_60 : decode cX10_completeTask 60 = .ok (.astore 4, 2) := by decide +kernel
theorem dX10_completeTask_62 : decode cX10_completeTask 62 = .ok (.aload 4, 2) := by decide +kernel
theorem dX10_completeTask_64 : decode cX10_completeTask 64 = .ok (.ifnonnull 6, 3) := by decide +kernel
theorem dX10_completeTask_67 : decode cX10_completeTask 67 = .ok (.goto 15, 3) := by decide +kernel
