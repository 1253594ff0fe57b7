theorem dX7_tell_85 : decode cX7_tell 85 = .ok (.ireturn, 1) := by decide +kernel
theorem dX7_tell_86 : decode cX7_tell 86 = .ok (.aload_n 0, 1) := by decide +kernel
theorem dX7_tell_87 : decode cX7_tell 87 = .ok (.getfield 28, 3) := by decide +kernel
theorem dX7_tell_90 : decode cX7_tell 90 = .ok (.ireturn, 1) := by decide +kernel
theorem dX7_tell_91 : decode cX7_tell 91 = .ok (.iconst (-1), 1) := by decide +kernel
theorem dX7_tell_92 : decode cX7_tell 92 = .ok (.ireturn, 1) := by decide +kernel
theorem dX8_init_0 : decode cX8_init 0 = .ok (.aload_n 0, 1) := by decide +kernel
theorem dX8_init_1 : decode cX8_init 1 = .ok (.invokespecial 3, 3) := by decide +kernel
theorem dX8_init_4 : decode cX8_init 4 = .ok (.aload_n 0, 1) := by decide +kernel
theorem dX8_init_5 : decode cX8_init 5 = .ok (.new 9, 3) := by decide +kernel
theorem dX8_init_8 : decode cX8_init 8 = .ok (.dup, 1) := by decide +kernel
theorem dX8_init_9 : decode cX8_init 9 = .ok (.invokespecial 11, 3) := by decide +kernel
theorem dX8_init_12 : decode cX8_init 12 = .ok (.putfield 12, 3) := by decide +kernel
theorem dX8_init_15 : decode cX8_init 15 = .ok (.aload_n 0, 1) := by decide +kernel
theorem dX8_init_16 : decode cX8_init 16 = .ok (.bipush 48, 2) := by decide +kernel
theorem dX8_init_18 : decode cX8_init 18 = .ok (.anewarray 18, 3) := by decide +kernel
theorem dX8_init_21 : decode cX8_init 21 = .ok (.putfield 20, 3) := by decide +kernel
theorem dX8_init_24 : decode cX8_init 24 = .ok (.aload_n 0, 1) := by decide +kernel
theorem dX8_init_25 : decode cX8_init 25 = .ok (.iconst 5, 1) := by decide +kernel
theorem dX8_init_26 : decode cX8_init 26 = .ok (.newarray .int, 2) := by decide +kernel
theorem dX8_init_28 : decode cX8_init 28 = .ok (.putfield 24, 3) := by decide +kernel
theorem dX8_init_31 : decode cX8_init 31 = .ok (.iconst 0, 1) := by decide +kernel
theorem dX8_init_32 : decode cX8_init 32 = .ok (.istore_n 1, 1) := by decide +kernel
theorem dX8_init_33 : decode cX8_init 33 = .ok (.iload_n 1, 1) := by decide +kernel
theorem dX8_init_34 : decode cX8_init 34 = .ok (.bipush 48, 2) := by decide +kernel
theorem dX8_init_36 : decode cX8_init 36 = .ok (.if_icmp .ge 25, 3) := by decide +kernel
theorem dX8_init_39 : decode cX8_init 39 = .ok (.aload_n 0, 1) := by decide +kernel
theorem dX8_init_40 : decode cX8_init 40 = .ok (.getfield 20, 3) := by decide +kernel
theorem dX8_init_43 : decode cX8_init 43 = .ok (.iload_n 1, 1) := by decide +kernel
theorem dX8_init_44 : decode cX8_init 44 = .ok (.new 18, 3) := by decide +kernel
theorem dX8_init_47 : decode cX8_init 47 = .ok (.dup, 1) := by decide +kernel
theorem dX8_init_48 : decode cX8_init 48 = .ok (.iconst (-1), 1) := by decide +kernel
theorem dX8_init_49 : decode cX8_init 49 = .ok (.aconst_null, 1) := by decide +kernel
theorem dX8_init_50 : decode cX8_init 50 = .ok (.aconst_null, 1) := by decide +kernel
theorem dX8_init_51 : decode cX8_init 51 = .ok (.invokespecial 28, 3) := by decide +kernel
theorem dX8_init_54 : decode cX8_init 54 = .ok (.aastore, 1) := by decide +kernel
theorem dX8_init_55 : decode cX8_init 55 = .ok (.iinc 1 1, 3) := by decide +kernel
theorem dX8_init_58 : decode cX8_init 58 = .ok (.goto (-25), 3) := by decide +kernel
theorem dX8_init_61 : decode cX8_init 61 = .ok (.return_, 1) := by decide +kernel
theorem dX8_load_0 : decode cX8_load 0 = .ok (.iconst 0, 1) := by decide +kernel
theorem dX8_load_1 : decode cX8_load 1 = .ok (.istore_n 2, 1) := by decide +kernel
theorem dX8_load_2 : decode cX8_load 2 = .ok (.iload_n 2, 1) := by decide +kernel
theorem dX8_load_3 : decode cX8_load 3 = .ok (.iconst 5, 1) := by decide +kernel
theorem dX8_load_4 : decode cX8_load 4 = .ok (.if_icmp .ge 27, 3) := by decide +kernel
theorem dX8_load_7 : decode cX8_load 7 = .ok (.aload_n 0, 1) := by decide +kernel
theorem dX8_load_8 : decode cX8_load 8 = .ok (.getfield 12, 3) := by decide +kernel
theorem dX8_load_11 : decode cX8_load 11 = .ok (.getfield 31, 3) := by decide +kernel
theorem dX8_load_14 : decode cX8_load 14 = .ok (.iload_n 2, 1) := by decide +kernel
theorem dX8_load_15 : decode cX8_load 15 = .ok (.aaload, 1) := by decide +kernel
theorem dX8_load_16 : decode cX8_load 16 = .ok (.aload_n 1, 1) := by decide +kernel
theorem dX8_load_17 : decode cX8_load 17 = .ok (.getfield 31, 3) := by decide +kernel
theorem dX8_load_20 : decode cX8_load 20 = .ok (.iload_n 2, 1) := by decide +kernel
theorem dX8_load_21 : decode cX8_load 21 = .ok (.aaload, 1) := by decide +kernel
theorem dX8_load_22 : decode cX8_load 22 = .ok (.invokevirtual 35, 3) := by decide +kernel
theorem dX8_load_25 : decode cX8_load 25 = .ok (.iinc 2 1, 3) := by decide +kernel
theorem dX8_load_28 : decode cX8_load 28 = .ok (.goto (-26), 3) := by decide +kernel
theorem dX8_load_31 : decode cX8_load 31 = .ok (.aload_n 1, 1) := by decide +kernel
theorem dX8_load_32 : decode cX8_load 32 = .ok (.getfield 41, 3) := by decide +kernel
theorem dX8_load_35 : decode cX8_load 35 = .ok (.iconst 0, 1) := by decide +kernel
theorem dX8_load_36 : decode cX8_load 36 = .ok (.aload_n 0, 1) := by decide +kernel
theorem dX8_load_37 : decode cX8_load 37 = .ok (.getfield 12, 3) := by decide +kernel
theorem dX8_load_40 : decode cX8_load 40 = .ok (.getfield 41, 3) := by decide +kernel
theorem dX8_load_43 : decode cX8_load 43 = .ok (.iconst 0, 1) := by decide +kernel
theorem dX8_load_44 : decode cX8_load 44 = .ok (.aload_n 0, 1) := by decide +kernel
theorem dX8_load_45 : decode cX8_load 45 = .ok (.getfield 12, 3) := by decide +kernel
theorem dX8_load_48 : decode cX8_load 48 = .ok (.getfield 41, 3) := by decide +kernel
theorem dX8_load_51 : decode cX8_load 51 = .ok (.arraylength, 1) := by decide +kernel
theorem dX8_load_52 : decode cX8_load 52 = .ok (.invokestatic 44, 3) := by decide +kernel
theorem dX8_load_55 : decode cX8_load 55 = .ok (.aload_n 1, 1) := by decide +kernel
theorem dX8_load_56 : decode cX8_load 56 = .ok (.getfield 50, 3) := by decide +kernel
theorem dX8_load_59 : decode cX8_load 59 = .ok (.iconst 0, 1) := by decide +kernel
theorem dX8_load_60 : decode cX8_load 60 = .ok (.aload_n 0, 1) := by decide +kernel
theorem dX8_load_61 : decode cX8_load 61 = .ok (.getfield 12, 3) := by decide +kernel
theorem dX8_load_64 : decode cX8_load 64 = .ok (.getfield 50, 3) := by decide +kernel
theorem dX8_load_67 : decode cX8_load 67 = .ok (.iconst 0, 1) := by decide +kernel
theorem dX8_load_68 : decode cX8_load 68 = .ok (.bipush 7, 2) := by decide +kernel
theorem dX8_load_70 : decode cX8_load 70 = .ok (.invokestatic 44, 3) := by decide +kernel
theorem dX8_load_73 : decode cX8_load 73 = .ok (.aload_n 0, 1) := by decide +kernel
theorem dX8_load_74 : decode cX8_load 74 = .ok (.getfield 12, 3) := by decide +kernel
theorem dX8_load_77 : decode cX8_load 77 = .ok (.getfield 53, 3) := by decide +kernel
theorem dX8_load_80 : decode cX8_load 80 = .ok (.invokevirtual 57, 3) := by decide +kernel
theorem dX8_load_83 : decode cX8_load 83 = .ok (.iconst 0, 1) := by decide +kernel
theorem dX8_load_84 : decode cX8_load 84 = .ok (.istore_n 2, 1) := by decide +kernel
theorem dX8_load_85 : decode cX8_load 85 = .ok (.iload_n 2, 1) := by decide +kernel
theorem dX8_load_86 : decode cX8_load 86 = .ok (.aload_n 1, 1) := by decide +kernel
theorem dX8_load_87 : decode cX8_load 87 = .ok (.getfield 53, 3) := by decide +kernel
theorem dX8_load_90 : decode cX8_load 90 = .ok (.getfield 62, 3) := by decide +kernel
theorem dX8_load_93 : decode cX8_load 93 = .ok (.if_icmp .ge 59, 3) := by decide +kernel
theorem dX8_load_96 : decode cX8_load 96 = .ok (.aload_n 1, 1) := by decide +kernel
theorem dX8_load_97 : decode cX8_load 97 = .ok (.getfield 53, 3) := by decide +kernel
theorem dX8_load_100 : decode cX8_load 100 = .ok (.getfield 66, 3) := by decide +kernel
theorem dX8_load_103 : decode cX8_load 103 = .ok (.iload_n 2, 1) := by decide +kernel
theorem dX8_load_104 : decode cX8_load 104 = .ok (.aaload, 1) := by decide +kernel
theorem dX8_load_105 : decode cX8_load 105 = .ok (.astore_n 3, 1) := by decide +kernel
theorem dX8_load_106 : decode cX8_load 106 = .ok (.aload_n 0, 1) := by decide +kernel
theorem dX8_load_107 : decode cX8_load 107 = .ok (.getfield 20, 3) := by decide +kernel
theorem dX8_load_110 : decode cX8_load 110 = .ok (.iload_n 2, 1) := by decide +kernel
theorem dX8_load_111 : decode cX8_load 111 = .ok (.aaload, 1) := by decide +kernel
theorem dX8_load_112 : decode cX8_load 112 = .ok (.aload_n 3, 1) := by decide +kernel
theorem dX8_load_113 : decode cX8_load 113 = .ok (.aload_n 0, 1) := by decide +kernel
theorem dX8_load_114 : decode cX8_load 114 = .ok (.getfield 12, 3) := by decide +kernel
theorem dX8_load_117 : decode cX8_load 117 = .ok (.aload_n 3, 1) := by decide +kernel
theorem dX8_load_118 : decode cX8_load 118 = .ok (.getfield 69, 3) := by decide +kernel
theorem dX8_load_121 : decode cX8_load 121 = .ok (.getfield 73, 3) := by decide +kernel
theorem dX8_load_124 : decode cX8_load 124 = .ok (.invokevirtual 76, 3) := by decide +kernel
theorem dX8_load_127 : decode cX8_load 127 = .ok (.invokevirtual 80, 3) := by decide +kernel
theorem dX8_load_130 : decode cX8_load 130 = .ok (.aload_n 0, 1) := by decide +kernel
theorem dX8_load_131 : decode cX8_load 131 = .ok (.getfield 12, 3) := by decide +kernel
theorem dX8_load_134 : decode cX8_load 134 = .ok (.getfield 53, 3) := by decide +kernel
theorem dX8_load_137 : decode cX8_load 137 = .ok (.aload_n 0, 1) := by decide +kernel
theorem dX8_load_138 : decode cX8_load 138 = .ok (.getfield 20, 3) := by decide +kernel
theorem dX8_load_141 : decode cX8_load 141 = .ok (.iload_n 2, 1) := by decide +kernel
theorem dX8_load_142 : decode cX8_load 142 = .ok (.aaload, 1) := by decide +kernel
theorem dX8_load_143 : decode cX8_load 143 = .ok (.invokevirtual 83, 3) := by decide +kernel
theorem dX8_load_146 : decode cX8_load 146 = .ok (.iinc 2 1, 3) := by decide +kernel
theorem dX8_load_149 : decode cX8_load 149 = .ok (.goto (-64), 3) := by decide +kernel
theorem dX8_load_152 : decode cX8_load 152 = .ok (.return_, 1) := by decide +kernel
theorem dX8_takenAt_0 : decode cX8_takenAt 0 = .ok (.aload_n 0, 1) := by decide +kernel
theorem dX8_takenAt_1 : decode cX8_takenAt 1 = .ok (.aload_n 1, 1) := by decide +kernel
theorem dX8_takenAt_2 : decode cX8_takenAt 2 = .ok (.invokevirtual 87, 3) := by decide +kernel
theorem dX8_takenAt_5 : decode cX8_takenAt 5 = .ok (.iconst 0, 1) := by decide +kernel
theorem dX8_takenAt_6 : decode cX8_takenAt 6 = .ok (.istore_n 3, 1) := by decide +kernel
theorem dX8_takenAt_7 : decode cX8_takenAt 7 = .ok (.iload_n 3, 1) := by decide +kernel
theorem dX8_takenAt_8 : decode cX8_takenAt 8 = .ok (.bipush 48, 2) := by decide +kernel
theorem dX8_takenAt_10 : decode cX8_takenAt 10 = .ok (.if_icmp .ge 37, 3) := by decide +kernel
theorem dX8_takenAt_13 : decode cX8_takenAt 13 = .ok (.aload_n 0, 1) := by decide +kernel
theorem dX8_takenAt_14 : decode cX8_takenAt 14 = .ok (.getfield 12, 3) := by decide +kernel
theorem dX8_takenAt_17 : decode cX8_takenAt 17 = .ok (.iconst 0, 1) := by decide +kernel
theorem dX8_takenAt_18 : decode cX8_takenAt 18 = .ok (.invokevirtual 91, 3) := by decide +kernel
theorem dX8_takenAt_21 : decode cX8_takenAt 21 = .ok (.astore 4, 2) := by decide +kernel
theorem dX8_takenAt_23 : decode cX8_takenAt 23 = .ok (.aload 4, 2) := by decide +kernel
theorem dX8_takenAt_25 : decode cX8_takenAt 25 = .ok (.ifnonnull 5, 3) := by decide +kernel
theorem dX8_takenAt_28 : decode cX8_takenAt 28 = .ok (.iconst (-1), 1) := by decide +kernel
theorem dX8_takenAt_29 : decode cX8_takenAt 29 = .ok (.ireturn, 1) := by decide +kernel
theorem dX8_takenAt_30 : decode cX8_takenAt 30 = .ok (.iload_n 3, 1) := by decide +kernel
theorem dX8_takenAt_31 : decode cX8_takenAt 31 = .ok (.iload_n 2, 1) := by decide +kernel
theorem dX8_takenAt_32 : decode cX8_takenAt 32 = .ok (.if_icmp .ne 9, 3) := by decide +kernel
theorem dX8_takenAt_35 : decode cX8_takenAt 35 = .ok (.aload 4, 2) := by decide +kernel
theorem dX8_takenAt_37 : decode cX8_takenAt 37 = .ok (.getfield 95, 3) := by decide +kernel
theorem dX8_takenAt_40 : decode cX8_takenAt 40 = .ok (.ireturn, 1) := by decide +kernel
theorem dX8_takenAt_41 : decode cX8_takenAt 41 = .ok (.iinc 3 1, 3) := by decide +kernel
theorem dX8_takenAt_44 : decode cX8_takenAt 44 = .ok (.goto (-37), 3) := by decide +kernel
theorem dX8_takenAt_47 : decode cX8_takenAt 47 = .ok (.iconst (-1), 1) := by decide +kernel
theorem dX8_takenAt_48 : decode cX8_takenAt 48 = .ok (.ireturn, 1) := by decide +kernel
theorem dX8_turnIn_0 : decode cX8_turnIn 0 = .ok (.aload_n 0, 1) := by decide +kernel
theorem dX8_turnIn_1 : decode cX8_turnIn 1 = .ok (.aload_n 1, 1) := by decide +kernel
theorem dX8_turnIn_2 : decode cX8_turnIn 2 = .ok (.invokevirtual 87, 3) := by decide +kernel
theorem dX8_turnIn_5 : decode cX8_turnIn 5 = .ok (.aload_n 0, 1) := by decide +kernel
theorem dX8_turnIn_6 : decode cX8_turnIn 6 = .ok (.getfield 12, 3) := by decide +kernel
theorem dX8_turnIn_9 : decode cX8_turnIn 9 = .ok (.aload_n 2, 1) := by decide +kernel
theorem dX8_turnIn_10 : decode cX8_turnIn 10 = .ok (.getfield 95, 3) := by decide +kernel
theorem dX8_turnIn_13 : decode cX8_turnIn 13 = .ok (.invokevirtual 96, 3) := by decide +kernel
theorem dX8_turnIn_16 : decode cX8_turnIn 16 = .ok (.astore 4, 2) := by decide +kernel
theorem dX8_turnIn_18 : decode cX8_turnIn 18 = .ok (.aload_n 0, 1) := by decide +kernel
theorem dX8_turnIn_19 : decode cX8_turnIn 19 = .ok (.getfield 12, 3) := by decide +kernel
theorem dX8_turnIn_22 : decode cX8_turnIn 22 = .ok (.aload_n 3, 1) := by decide +kernel
theorem dX8_turnIn_23 : decode cX8_turnIn 23 = .ok (.getfield 73, 3) := by decide +kernel
theorem dX8_turnIn_26 : decode cX8_turnIn 26 = .ok (.invokevirtual 76, 3) := by decide +kernel
theorem dX8_turnIn_29 : decode cX8_turnIn 29 = .ok (.astore 5, 2) := by decide +kernel
theorem dX8_turnIn_31 : decode cX8_turnIn 31 = .ok (.aload 4, 2) := by decide +kernel
theorem dX8_turnIn_33 : decode cX8_turnIn 33 = .ok (.ifnull 29, 3) := by decide +kernel
theorem dX8_turnIn_36 : decode cX8_turnIn 36 = .ok (.aload 5, 2) := by decide +kernel
theorem dX8_turnIn_38 : decode cX8_turnIn 38 = .ok (.ifnull 24, 3) := by decide +kernel
theorem dX8_turnIn_41 : decode cX8_turnIn 41 = .ok (.aload 4, 2) := by decide +kernel
theorem dX8_turnIn_43 : decode cX8_turnIn 43 = .ok (.getfield 69, 3) := by decide +kernel
theorem dX8_turnIn_46 : decode cX8_turnIn 46 = .ok (.aload 5, 2) := by decide +kernel
theorem dX8_turnIn_48 : decode cX8_turnIn 48 = .ok (.if_acmp .eq 14, 3) := by decide +kernel
theorem dX8_turnIn_51 : decode cX8_turnIn 51 = .ok (.aload_n 0, 1) := by decide +kernel
theorem dX8_turnIn_52 : decode cX8_turnIn 52 = .ok (.getfield 12, 3) := by decide +kernel
theorem dX8_turnIn_55 : decode cX8_turnIn 55 = .ok (.aload 4, 2) := by decide +kernel
theorem dX8_turnIn_57 : decode cX8_turnIn 57 = .ok (.aload 5, 2) := by decide +kernel
theorem dX8_turnIn_59 : decode cX8_turnIn 59 = .ok (.invokevirtual 100, 3) := by decide +kernel
theorem dX8_turnIn_62 : decode cX8_turnIn 62 = .ok (.iconst 0, 1) := by decide +kernel
theorem dX8_turnIn_63 : decode cX8_turnIn 63 = .ok (.istore 6, 2) := by decide +kernel
theorem dX8_turnIn_65 : decode cX8_turnIn 65 = .ok (.iload 6, 2) := by decide +kernel
theorem dX8_turnIn_67 : decode cX8_turnIn 67 = .ok (.bipush 48, 2) := by decide +kernel
theorem dX8_turnIn_69 : decode cX8_turnIn 69 = .ok (.if_icmp .ge 41, 3) := by decide +kernel
theorem dX8_turnIn_72 : decode cX8_turnIn 72 = .ok (.aload_n 0, 1) := by decide +kernel
theorem dX8_turnIn_73 : decode cX8_turnIn 73 = .ok (.getfield 12, 3) := by decide +kernel
theorem dX8_turnIn_76 : decode cX8_turnIn 76 = .ok (.iconst 0, 1) := by decide +kernel
theorem dX8_turnIn_77 : decode cX8_turnIn 77 = .ok (.invokevirtual 91, 3) := by decide +kernel
theorem dX8_turnIn_80 : decode cX8_turnIn 80 = .ok (.astore 7, 2) := by decide +kernel
theorem dX8_turnIn_82 : decode cX8_turnIn 82 = .ok (.aload 7, 2) := by decide +kernel
theorem dX8_turnIn_84 : decode cX8_turnIn 84 = .ok (.ifnonnull 5, 3) := by decide +kernel
theorem dX8_turnIn_87 : decode cX8_turnIn 87 = .ok (.iconst (-1), 1) := by decide +kernel
theorem dX8_turnIn_88 : decode cX8_turnIn 88 = .ok (.ireturn, 1) := by decide +kernel
theorem dX8_turnIn_89 : decode cX8_turnIn 89 = .ok (.aload 7, 2) := by decide +kernel
theorem dX8_turnIn_91 : decode cX8_turnIn 91 = .ok (.getfield 95, 3) := by decide +kernel
theorem dX8_turnIn_94 : decode cX8_turnIn 94 = .ok (.aload_n 2, 1) := by decide +kernel
theorem dX8_turnIn_95 : decode cX8_turnIn 95 = .ok (.getfield 95, 3) := by decide +kernel
theorem dX8_turnIn_98 : decode cX8_turnIn 98 = .ok (.if_icmp .ne 6, 3) := by decide +kernel
theorem dX8_turnIn_101 : decode cX8_turnIn 101 = .ok (.iload 6, 2) := by decide +kernel
theorem dX8_turnIn_103 : decode cX8_turnIn 103 = .ok (.ireturn, 1) := by decide +kernel
theorem dX8_turnIn_104 : decode cX8_turnIn 104 = .ok (.iinc 6 1, 3) := by decide +kernel
theorem dX8_turnIn_107 : decode cX8_turnIn 107 = .ok (.goto (-42), 3) := by decide +kernel
theorem dX8_turnIn_110 : decode cX8_turnIn 110 = .ok (.iconst (-1), 1) := by decide +kernel
theorem dX8_turnIn_111 : decode cX8_turnIn 111 = .ok (.ireturn, 1) := by decide +kernel
theorem dX8_run_0 : decode cX8_run 0 = .ok (.aload_n 0, 1) := by decide +kernel
theorem dX8_run_1 : decode cX8_run 1 = .ok (.aload_n 1, 1) := by decide +kernel
theorem dX8_run_2 : decode cX8_run 2 = .ok (.invokevirtual 87, 3) := by decide +kernel
theorem dX8_run_5 : decode cX8_run 5 = .ok (.aload_n 0, 1) := by decide +kernel
theorem dX8_run_6 : decode cX8_run 6 = .ok (.iload_n 3, 1) := by decide +kernel
theorem dX8_run_7 : decode cX8_run 7 = .ok (.putfield 103, 3) := by decide +kernel
theorem dX8_run_10 : decode cX8_run 10 = .ok (.aload_n 0, 1) := by decide +kernel
theorem dX8_run_11 : decode cX8_run 11 = .ok (.iconst 0, 1) := by decide +kernel
theorem dX8_run_12 : decode cX8_run 12 = .ok (.putfield 106, 3) := by decide +kernel
theorem dX8_run_15 : decode cX8_run 15 = .ok (.aload_n 0, 1) := by decide +kernel
theorem dX8_run_16 : decode cX8_run 16 = .ok (.iconst 0, 1) := by decide +kernel
theorem dX8_run_17 : decode cX8_run 17 = .ok (.putfield 109, 3) := by decide +kernel
theorem dX8_run_20 : decode cX8_run 20 = .ok (.aload_n 0, 1) := by decide +kernel
theorem dX8_run_21 : decode cX8_run 21 = .ok (.iconst (-1), 1) := by decide +kernel
theorem dX8_run_22 : decode cX8_run 22 = .ok (.putfield 112, 3) := by decide +kernel
theorem dX8_run_25 : decode cX8_run 25 = .ok (.aload_n 0, 1) := by decide +kernel
theorem dX8_run_26 : decode cX8_run 26 = .ok (.getfield 24, 3) := by decide +kernel
theorem dX8_run_29 : decode cX8_run 29 = .ok (.iconst 0, 1) := by decide +kernel
theorem dX8_run_30 : decode cX8_run 30 = .ok (.invokestatic 115, 3) := by decide +kernel
theorem dX8_run_33 : decode cX8_run 33 = .ok (.aload_n 0, 1) := by decide +kernel
theorem dX8_run_34 : decode cX8_run 34 = .ok (.iload_n 2, 1) := by decide +kernel
theorem dX8_run_35 : decode cX8_run 35 = .ok (.aload_n 0, 1) := by decide +kernel
theorem dX8_run_36 : decode cX8_run 36 = .ok (.getfield 12, 3) := by decide +kernel
theorem dX8_run_39 : decode cX8_run 39 = .ok (.getfield 50, 3) := by decide +kernel
theorem dX8_run_42 : decode cX8_run 42 = .ok (.iconst 3, 1) := by decide +kernel
theorem dX8_run_43 : decode cX8_run 43 = .ok (.iaload, 1) := by decide +kernel
theorem dX8_run_44 : decode cX8_run 44 = .ok (.isub, 1) := by decide +kernel
theorem dX8_run_45 : decode cX8_run 45 = .ok (.putfield 121, 3) := by decide +kernel
theorem dX8_run_48 : decode cX8_run 48 = .ok (.iconst 0, 1) := by decide +kernel
theorem dX8_run_49 : decode cX8_run 49 = .ok (.istore 4, 2) := by decide +kernel
theorem dX8_run_51 : decode cX8_run 51 = .ok (.iload 4, 2) := by decide +kernel
theorem dX8_run_53 : decode cX8_run 53 = .ok (.aload_n 0, 1) := by decide +kernel
theorem dX8_run_54 : decode cX8_run 54 = .ok (.getfield 12, 3) := by decide +kernel
theorem dX8_run_57 : decode cX8_run 57 = .ok (.getfield 53, 3) := by decide +kernel
theorem dX8_run_60 : decode cX8_run 60 = .ok (.getfield 62, 3) := by decide +kernel
theorem dX8_run_63 : decode cX8_run 63 = .ok (.if_icmp .ge 26, 3) := by decide +kernel
theorem dX8_run_66 : decode cX8_run 66 = .ok (.aload_n 0, 1) := by decide +kernel
theorem dX8_run_67 : decode cX8_run 67 = .ok (.getfield 12, 3) := by decide +kernel
theorem dX8_run_70 : decode cX8_run 70 = .ok (.getfield 53, 3) := by decide +kernel
theorem dX8_run_73 : decode cX8_run 73 = .ok (.getfield 66, 3) := by decide +kernel
theorem dX8_run_76 : decode cX8_run 76 = .ok (.iload 4, 2) := by decide +kernel
theorem dX8_run_78 : decode cX8_run 78 = .ok (.aaload, 1) := by decide +kernel
theorem dX8_run_79 : decode cX8_run 79 = .ok (.iload_n 3, 1) := by decide +kernel
theorem dX8_run_80 : decode cX8_run 80 = .ok (.putfield 124, 3) := by decide +kernel
theorem dX8_run_83 : decode cX8_run 83 = .ok (.iinc 4 1, 3) := by decide +kernel
theorem dX8_run_86 : decode cX8_run 86 = .ok (.goto (-35), 3) := by decide +kernel
theorem dX8_run_89 : decode cX8_run 89 = .ok (.iconst 0, 1) := by decide +kernel
theorem dX8_run_90 : decode cX8_run 90 = .ok (.istore 4, 2) := by decide +kernel
theorem dX8_run_92 : decode cX8_run 92 = .ok (.iload 4, 2) := by decide +kernel
theorem dX8_run_94 : decode cX8_run 94 = .ok (.bipush 96, 2) := by decide +kernel
theorem dX8_run_96 : decode cX8_run 96 = .ok (.if_icmp .gt 73, 3) := by decide +kernel
theorem dX8_run_99 : decode cX8_run 99 = .ok (.aload_n 0, 1) := by decide +kernel
theorem dX8_run_100 : decode cX8_run 100 = .ok (.invokevirtual 127, 3) := by decide +kernel
theorem dX8_run_103 : decode cX8_run 103 = .ok (.aload_n 0, 1) := by decide +kernel
theorem dX8_run_104 : decode cX8_run 104 = .ok (.invokevirtual 130, 3) := by decide +kernel
theorem dX8_run_107 : decode cX8_run 107 = .ok (.aload_n 0, 1) := by decide +kernel
theorem dX8_run_108 : decode cX8_run 108 = .ok (.invokevirtual 133, 3) := by decide +kernel
theorem dX8_run_111 : decode cX8_run 111 = .ok (.aload_n 0, 1) := by decide +kernel
theorem dX8_run_112 : decode cX8_run 112 = .ok (.invokevirtual 136, 3) := by decide +kernel
theorem dX8_run_115 : decode cX8_run 115 = .ok (.istore 5, 2) := by decide +kernel
theorem dX8_run_117 : decode cX8_run 117 = .ok (.iload 5, 2) := by decide +kernel
theorem dX8_run_119 : decode cX8_run 119 = .ok (.iconst (-1), 1) := by decide +kernel
theorem dX8_run_120 : decode cX8_run 120 = .ok (.if_icmp .ne 6, 3) := by decide +kernel
theorem dX8_run_123 : decode cX8_run 123 = .ok (.goto 46, 3) := by decide +kernel
theorem dX8_run_126 : decode cX8_run 126 = .ok (.aload_n 0, 1) := by decide +kernel
theorem dX8_run_127 : decode cX8_run 127 = .ok (.dup, 1) := by decide +kernel
theorem dX8_run_128 : decode cX8_run 128 = .ok (.getfield 109, 3) := by decide +kernel
theorem dX8_run_131 : decode cX8_run 131 = .ok (.aload_n 0, 1) := by decide +kernel
theorem dX8_run_132 : decode cX8_run 132 = .ok (.getfield 121, 3) := by decide +kernel
theorem dX8_run_135 : decode cX8_run 135 = .ok (.iload 5, 2) := by decide +kernel
theorem dX8_run_137 : decode cX8_run 137 = .ok (.aload_n 0, 1) := by decide +kernel
theorem dX8_run_138 : decode cX8_run 138 = .ok (.getfield 103, 3) := by decide +kernel
theorem dX8_run_141 : decode cX8_run 141 = .ok (.isub, 1) := by decide +kernel
theorem dX8_run_142 : decode cX8_run 142 = .ok (.aload_n 0, 1) := by decide +kernel
theorem dX8_run_143 : decode cX8_run 143 = .ok (.getfield 106, 3) := by decide +kernel
theorem dX8_run_146 : decode cX8_run 146 = .ok (.isub, 1) := by decide +kernel
theorem dX8_run_147 : decode cX8_run 147 = .ok (.imul, 1) := by decide +kernel
theorem dX8_run_148 : decode cX8_run 148 = .ok (.iadd, 1) := by decide +kernel
theorem dX8_run_149 : decode cX8_run 149 = .ok (.putfield 109, 3) := by decide +kernel
theorem dX8_run_152 : decode cX8_run 152 = .ok (.aload_n 0, 1) := by decide +kernel
theorem dX8_run_153 : decode cX8_run 153 = .ok (.iload 5, 2) := by decide +kernel
theorem dX8_run_155 : decode cX8_run 155 = .ok (.aload_n 0, 1) := by decide +kernel
theorem dX8_run_156 : decode cX8_run 156 = .ok (.getfield 103, 3) := by decide +kernel
theorem dX8_run_159 : decode cX8_run 159 = .ok (.isub, 1) := by decide +kernel
theorem dX8_run_160 : decode cX8_run 160 = .ok (.putfield 106, 3) := by decide +kernel
theorem dX8_run_163 : decode cX8_run 163 = .ok (.iinc 4 1, 3) := by decide +kernel
theorem dX8_run_166 : decode cX8_run 166 = .ok (.goto (-74), 3) := by decide +kernel
theorem dX8_run_169 : decode cX8_run 169 = .ok (.return_, 1) := by decide +kernel
theorem dX8_completeEnding_0 : decode cX8_completeEnding 0 = .ok (.iconst 0, 1) := by decide +kernel
theorem dX8_completeEnding_1 : decode cX8_completeEnding 1 = .ok (.istore_n 1, 1) := by decide +kernel
theorem dX8_completeEnding_2 : decode cX8_completeEnding 2 = .ok (.iload_n 1, 1) := by decide +kernel
theorem dX8_completeEnding_3 : decode cX8_completeEnding 3 = .ok (.bipush 48, 2) := by decide +kernel
theorem dX8_completeEnding_5 : decode cX8_completeEnding 5 = .ok (.if_icmp .ge 81, 3) := by decide +kernel
theorem dX8_completeEnding_8 : decode cX8_completeEnding 8 = .ok (.aload_n 0, 1) := by decide +kernel
theorem dX8_completeEnding_9 : decode cX8_completeEnding 9 = .ok (.getfield 12, 3) := by decide +kernel
theorem dX8_completeEnding_12 : decode cX8_completeEnding 12 = .ok (.aload_n 0, 1) := by decide +kernel
theorem dX8_completeEnding_13 : decode cX8_completeEnding 13 = .ok (.getfield 103, 3) := by decide +kernel
theorem dX8_completeEnding_16 : decode cX8_completeEnding 16 = .ok (.aload_n 0, 1) := by decide +kernel
theorem dX8_completeEnding_17 : decode cX8_completeEnding 17 = .ok (.getfield 106, 3) := by decide +kernel
theorem dX8_completeEnding_20 : decode cX8_completeEnding 20 = .ok (.iadd, 1) := by decide +kernel
theorem dX8_completeEnding_21 : decode cX8_completeEnding 21 = .ok (.invokevirtual 140, 3) := by decide +kernel
theorem dX8_completeEnding_24 : decode cX8_completeEnding 24 = .ok (.astore_n 2, 1) := by decide +kernel
theorem dX8_completeEnding_25 : decode cX8_completeEnding 25 = .ok (.aload_n 2, 1) := by decide +kernel
theorem dX8_completeEnding_26 : decode cX8_completeEnding 26 = .ok (.ifnonnull 6, 3) := by decide +kernel
theorem dX8_completeEnding_29 : decode cX8_completeEnding 29 = .ok (.goto 57, 3) := by decide +kernel
theorem dX8_completeEnding_32 : decode cX8_completeEnding 32 = .ok (.aload_n 0, 1) := by decide +kernel
theorem dX8_completeEnding_33 : decode cX8_completeEnding 33 = .ok (.getfield 12, 3) := by decide +kernel
theorem dX8_completeEnding_36 : decode cX8_completeEnding 36 = .ok (.aload_n 2, 1) := by decide +kernel
theorem dX8_completeEnding_37 : decode cX8_completeEnding 37 = .ok (.iconst 4, 1) := by decide +kernel
theorem dX8_completeEnding_38 : decode cX8_completeEnding 38 = .ok (.invokevirtual 143, 3) := by decide +kernel
theorem dX8_completeEnding_41 : decode cX8_completeEnding 41 = .ok (.aload_n 0, 1) := by decide +kernel
theorem dX8_completeEnding_42 : decode cX8_completeEnding 42 = .ok (.dup, 1) := by decide +kernel
theorem dX8_completeEnding_43 : decode cX8_completeEnding 43 = .ok (.getfield 121, 3) := by decide +kernel
theorem dX8_completeEnding_46 : decode cX8_completeEnding 46 = .ok (.iconst 1, 1) := by decide +kernel
theorem dX8_completeEnding_47 : decode cX8_completeEnding 47 = .ok (.iadd, 1) := by decide +kernel
theorem dX8_completeEnding_48 : decode cX8_completeEnding 48 = .ok (.putfield 121, 3) := by decide +kernel
theorem dX8_completeEnding_51 : decode cX8_completeEnding 51 = .ok (.aload_n 0, 1) := by decide +kernel
theorem dX8_completeEnding_52 : decode cX8_completeEnding 52 = .ok (.aload_n 2, 1) := by decide +kernel
theorem dX8_completeEnding_53 : decode cX8_completeEnding 53 = .ok (.getfield 95, 3) := by decide +kernel
theorem dX8_completeEnding_56 : decode cX8_completeEnding 56 = .ok (.putfield 112, 3) := by decide +kernel
theorem dX8_completeEnding_59 : decode cX8_completeEnding 59 = .ok (.aload_n 0, 1) := by decide +kernel
theorem dX8_completeEnding_60 : decode cX8_completeEnding 60 = .ok (.getfield 24, 3) := by decide +kernel
theorem dX8_completeEnding_63 : decode cX8_completeEnding 63 = .ok (.aload_n 2, 1) := by decide +kernel
theorem dX8_completeEnding_64 : decode cX8_completeEnding 64 = .ok (.getfield 69, 3) := by decide +kernel
theorem dX8_completeEnding_67 : decode cX8_completeEnding 67 = .ok (.getfield 73, 3) := by decide +kernel
theorem dX8_completeEnding_70 : decode cX8_completeEnding 70 = .ok (.aload_n 0, 1) := by decide +kernel
theorem dX8_completeEnding_71 : decode cX8_completeEnding 71 = .ok (.getfield 106, 3) := by decide +kernel
theorem dX8_completeEnding_74 : decode cX8_completeEnding 74 = .ok (.iastore, 1) := by decide +kernel
theorem dX8_completeEnding_75 : decode cX8_completeEnding 75 = .ok (.aload_n 0, 1) := by decide +kernel
theorem dX8_completeEnding_76 : decode cX8_completeEnding 76 = .ok (.aload_n 2, 1) := by decide +kernel
theorem dX8_completeEnding_77 : decode cX8_completeEnding 77 = .ok (.invokevirtual 147, 3) := by decide +kernel
theorem dX8_completeEnding_80 : decode cX8_completeEnding 80 = .ok (.iinc 1 1, 3) := by decide +kernel
theorem dX8_completeEnding_83 : decode cX8_completeEnding 83 = .ok (.goto (-81), 3) := by decide +kernel
theorem dX8_completeEnding_86 : decode cX8_completeEnding 86 = .ok (.return_, 1) := by decide +kernel
theorem dX8_releaseBehind_0 : decode cX8_releaseBehind 0 = .ok (.iconst 0, 1) := by decide +kernel
theorem dX8_releaseBehind_1 : decode cX8_releaseBehind 1 = .ok (.istore_n 2, 1) := by decide +kernel
theorem dX8_releaseBehind_2 : decode cX8_releaseBehind 2 = .ok (.iload_n 2, 1) := by decide +kernel
theorem dX8_releaseBehind_3 : decode cX8_releaseBehind 3 = .ok (.bipush 48, 2) := by decide +kernel
theorem dX8_releaseBehind_5 : decode cX8_releaseBehind 5 = .ok (.if_icmp .ge 33, 3) := by decide +kernel
theorem dX8_releaseBehind_8 : decode cX8_releaseBehind 8 = .ok (.aload_n 0, 1) := by decide +kernel
theorem dX8_releaseBehind_9 : decode cX8_releaseBehind 9 = .ok (.getfield 12, 3) := by decide +kernel
theorem dX8_releaseBehind_12 : decode cX8_releaseBehind 12 = .ok (.aload_n 1, 1) := by decide +kernel
theorem dX8_releaseBehind_13 : decode cX8_releaseBehind 13 = .ok (.invokevirtual 150, 3) := by decide +kernel
theorem dX8_releaseBehind_16 : decode cX8_releaseBehind 16 = .ok (.astore_n 3, 1) := by decide +kernel
theorem dX8_releaseBehind_17 : decode cX8_releaseBehind 17 = .ok (.aload_n 3, 1) := by decide +kernel
theorem dX8_releaseBehind_18 : decode cX8_releaseBehind 18 = .ok (.ifnonnull 6, 3) := by decide +kernel
theorem dX8_releaseBehind_21 : decode cX8_releaseBehind 21 = .ok (.goto 17, 3) := by decide +kernel
theorem dX8_releaseBehind_24 : decode cX8_releaseBehind 24 = .ok (.aload_n 0, 1) := by decide +kernel
theorem dX8_releaseBehind_25 : decode cX8_releaseBehind 25 = .ok (.getfield 12, 3) := by decide +kernel
theorem dX8_releaseBehind_28 : decode cX8_releaseBehind 28 = .ok (.aload_n 3, 1) := by decide +kernel
theorem dX8_releaseBehind_29 : decode cX8_releaseBehind 29 = .ok (.invokevirtual 154, 3) := by decide +kernel
theorem dX8_releaseBehind_32 : decode cX8_releaseBehind 32 = .ok (.iinc 2 1, 3) := by decide +kernel
theorem dX8_releaseBehind_35 : decode cX8_releaseBehind 35 = .ok (.goto (-33), 3) := by decide +kernel
theorem dX8_releaseBehind_38 : decode cX8_releaseBehind 38 = .ok (.return_, 1) := by decide +kernel
theorem dX8_wakeDue_0 : decode cX8_wakeDue 0 = .ok (.iconst 0, 1) := by decide +kernel
theorem dX8_wakeDue_1 : decode cX8_wakeDue 1 = .ok (.istore_n 1, 1) := by decide +kernel
theorem dX8_wakeDue_2 : decode cX8_wakeDue 2 = .ok (.iload_n 1, 1) := by decide +kernel
theorem dX8_wakeDue_3 : decode cX8_wakeDue 3 = .ok (.bipush 48, 2) := by decide +kernel
theorem dX8_wakeDue_5 : decode cX8_wakeDue 5 = .ok (.if_icmp .ge 41, 3) := by decide +kernel
theorem dX8_wakeDue_8 : decode cX8_wakeDue 8 = .ok (.aload_n 0, 1) := by decide +kernel
theorem dX8_wakeDue_9 : decode cX8_wakeDue 9 = .ok (.getfield 12, 3) := by decide +kernel
theorem dX8_wakeDue_12 : decode cX8_wakeDue 12 = .ok (.aload_n 0, 1) := by decide +kernel
theorem dX8_wakeDue_13 : decode cX8_wakeDue 13 = .ok (.getfield 103, 3) := by decide +kernel
theorem dX8_wakeDue_16 : decode cX8_wakeDue 16 = .ok (.aload_n 0, 1) := by decide +kernel
theorem dX8_wakeDue_17 : decode cX8_wakeDue 17 = .ok (.getfield 106, 3) := by decide +kernel
theorem dX8_wakeDue_20 : decode cX8_wakeDue 20 = .ok (.iadd, 1) := by decide +kernel
theorem dX8_wakeDue_21 : decode cX8_wakeDue 21 = .ok (.invokevirtual 157, 3) := by decide +kernel
theorem dX8_wakeDue_24 : decode cX8_wakeDue 24 = .ok (.astore_n 2, 1) := by decide +kernel
theorem dX8_wakeDue_25 : decode cX8_wakeDue 25 = .ok (.aload_n 2, 1) := by decide +kernel
theorem dX8_wakeDue_26 : decode cX8_wakeDue 26 = .ok (.ifnonnull 6, 3) := by decide +kernel
theorem dX8_wakeDue_29 : decode cX8_wakeDue 29 = .ok (.goto 17, 3) := by decide +kernel
theorem dX8_wakeDue_32 : decode cX8_wakeDue 32 = .ok (.aload_n 0, 1) := by decide +kernel
theorem dX8_wakeDue_33 : decode cX8_wakeDue 33 = .ok (.getfield 12, 3) := by decide +kernel
theorem dX8_wakeDue_36 : decode cX8_wakeDue 36 = .ok (.aload_n 2, 1) := by decide +kernel
theorem dX8_wakeDue_37 : decode cX8_wakeDue 37 = .ok (.invokevirtual 154, 3) := by decide +kernel
theorem dX8_wakeDue_40 : decode cX8_wakeDue 40 = .ok (.iinc 1 1, 3) := by decide +kernel
theorem dX8_wakeDue_43 : decode cX8_wakeDue 43 = .ok (.goto (-41), 3) := by decide +kernel
theorem dX8_wakeDue_46 : decode cX8_wakeDue 46 = .ok (.return_, 1) := by decide +kernel
theorem dX8_serveFree_0 : decode cX8_serveFree 0 = .ok (.iconst 0, 1) := by decide +kernel
theorem dX8_serveFree_1 : decode cX8_serveFree 1 = .ok (.istore_n 1, 1) := by decide +kernel
theorem dX8_serveFree_2 : decode cX8_serveFree 2 = .ok (.iload_n 1, 1) := by decide +kernel
theorem dX8_serveFree_3 : decode cX8_serveFree 3 = .ok (.bipush 6, 2) := by decide +kernel
theorem dX8_serveFree_5 : decode cX8_serveFree 5 = .ok (.if_icmp .ge 60, 3) := by decide +kernel
theorem dX8_serveFree_8 : decode cX8_serveFree 8 = .ok (.aload_n 0, 1) := by decide +kernel
theorem dX8_serveFree_9 : decode cX8_serveFree 9 = .ok (.getfield 121, 3) := by decide +kernel
theorem dX8_serveFree_12 : decode cX8_serveFree 12 = .ok (.ifCond .le 53, 3) := by decide +kernel
theorem dX8_serveFree_15 : decode cX8_serveFree 15 = .ok (.aload_n 0, 1) := by decide +kernel
theorem dX8_serveFree_16 : decode cX8_serveFree 16 = .ok (.getfield 12, 3) := by decide +kernel
theorem dX8_serveFree_19 : decode cX8_serveFree 19 = .ok (.iconst 1, 1) := by decide +kernel
theorem dX8_serveFree_20 : decode cX8_serveFree 20 = .ok (.invokevirtual 91, 3) := by decide +kernel
theorem dX8_serveFree_23 : decode cX8_serveFree 23 = .ok (.astore_n 2, 1) := by decide +kernel
theorem dX8_serveFree_24 : decode cX8_serveFree 24 = .ok (.aload_n 2, 1) := by decide +kernel
theorem dX8_serveFree_25 : decode cX8_serveFree 25 = .ok (.ifnonnull 6, 3) := by decide +kernel
theorem dX8_serveFree_28 : decode cX8_serveFree 28 = .ok (.goto 37, 3) := by decide +kernel
theorem dX8_serveFree_31 : decode cX8_serveFree 31 = .ok (.aload_n 2, 1) := by decide +kernel
theorem dX8_serveFree_32 : decode cX8_serveFree 32 = .ok (.aload_n 0, 1) := by decide +kernel
theorem dX8_serveFree_33 : decode cX8_serveFree 33 = .ok (.getfield 103, 3) := by decide +kernel
theorem dX8_serveFree_36 : decode cX8_serveFree 36 = .ok (.aload_n 0, 1) := by decide +kernel
theorem dX8_serveFree_37 : decode cX8_serveFree 37 = .ok (.getfield 106, 3) := by decide +kernel
theorem dX8_serveFree_40 : decode cX8_serveFree 40 = .ok (.iadd, 1) := by decide +kernel
theorem dX8_serveFree_41 : decode cX8_serveFree 41 = .ok (.aload_n 2, 1) := by decide +kernel
theorem dX8_serveFree_42 : decode cX8_serveFree 42 = .ok (.getfield 160, 3) := by decide +kernel
theorem dX8_serveFree_45 : decode cX8_serveFree 45 = .ok (.iadd, 1) := by decide +kernel
theorem dX8_serveFree_46 : decode cX8_serveFree 46 = .ok (.putfield 124, 3) := by decide +kernel
theorem dX8_serveFree_49 : decode cX8_serveFree 49 = .ok (.aload_n 0, 1) := by decide +kernel
theorem dX8_serveFree_50 : decode cX8_serveFree 50 = .ok (.dup, 1) := by decide +kernel
theorem dX8_serveFree_51 : decode cX8_serveFree 51 = .ok (.getfield 121, 3) := by decide +kernel
theorem dX8_serveFree_54 : decode cX8_serveFree 54 = .ok (.iconst 1, 1) := by decide +kernel
theorem dX8_serveFree_55 : decode cX8_serveFree 55 = .ok (.isub, 1) := by decide +kernel
theorem dX8_serveFree_56 : decode cX8_serveFree 56 = .ok (.putfield 121, 3) := by decide +kernel
theorem dX8_serveFree_59 : decode cX8_serveFree 59 = .ok (.iinc 1 1, 3) := by decide +kernel
theorem dX8_serveFree_62 : decode cX8_serveFree 62 = .ok (.goto (-60), 3) := by decide +kernel
theorem dX8_serveFree_65 : decode cX8_serveFree 65 = .ok (.return_, 1) := by decide +kernel
theorem dX8_nextTick_0 : decode cX8_nextTick 0 = .ok (.aload_n 0, 1) := by decide +kernel
theorem dX8_nextTick_1 : decode cX8_nextTick 1 = .ok (.getfield 12, 3) := by decide +kernel
theorem dX8_nextTick_4 : decode cX8_nextTick 4 = .ok (.iconst 3, 1) := by decide +kernel
theorem dX8_nextTick_5 : decode cX8_nextTick 5 = .ok (.aconst_null, 1) := by decide +kernel
theorem dX8_nextTick_6 : decode cX8_nextTick 6 = .ok (.invokevirtual 161, 3) := by decide +kernel
theorem dX8_nextTick_9 : decode cX8_nextTick 9 = .ok (.astore_n 1, 1) := by decide +kernel
theorem dX8_nextTick_10 : decode cX8_nextTick 10 = .ok (.aload_n 0, 1) := by decide +kernel
theorem dX8_nextTick_11 : decode cX8_nextTick 11 = .ok (.getfield 12, 3) := by decide +kernel
theorem dX8_nextTick_14 : decode cX8_nextTick 14 = .ok (.iconst 2, 1) := by decide +kernel
theorem dX8_nextTick_15 : decode cX8_nextTick 15 = .ok (.aconst_null, 1) := by decide +kernel
theorem dX8_nextTick_16 : decode cX8_nextTick 16 = .ok (.invokevirtual 161, 3) := by decide +kernel
theorem dX8_nextTick_19 : decode cX8_nextTick 19 = .ok (.astore_n 2, 1) := by decide +kernel
theorem dX8_nextTick_20 : decode cX8_nextTick 20 = .ok (.aload_n 1, 1) := by decide +kernel
theorem dX8_nextTick_21 : decode cX8_nextTick 21 = .ok (.ifnonnull 16, 3) := by decide +kernel
theorem dX8_nextTick_24 : decode cX8_nextTick 24 = .ok (.aload_n 2, 1) := by decide +kernel
theorem dX8_nextTick_25 : decode cX8_nextTick 25 = .ok (.ifnonnull 7, 3) := by decide +kernel
theorem dX8_nextTick_28 : decode cX8_nextTick 28 = .ok (.iconst (-1), 1) := by decide +kernel
theorem dX8_nextTick_29 : decode cX8_nextTick 29 = .ok (.goto 7, 3) := by decide +kernel
theorem dX8_nextTick_32 : decode cX8_nextTick 32 = .ok (.aload_n 2, 1) := by decide +kernel
theorem dX8_nextTick_33 : decode cX8_nextTick 33 = .ok (.getfield 165, 3) := by decide +kernel
theorem dX8_nextTick_36 : decode cX8_nextTick 36 = .ok (.ireturn, 1) := by decide +kernel
theorem dX8_nextTick_37 : decode cX8_nextTick 37 = .ok (.aload_n 2, 1) := by decide +kernel
theorem dX8_nextTick_38 : decode cX8_nextTick 38 = .ok (.ifnonnull 10, 3) := by decide +kernel
theorem dX8_nextTick_41 : decode cX8_nextTick 41 = .ok (.aload_n 1, 1) := by decide +kernel
theorem dX8_nextTick_42 : decode cX8_nextTick 42 = .ok (.getfield 124, 3) := by decide +kernel
theorem dX8_nextTick_45 : decode cX8_nextTick 45 = .ok (.goto 14, 3) := by decide +kernel
theorem dX8_nextTick_48 : decode cX8_nextTick 48 = .ok (.aload_n 1, 1) := by decide +kernel
theorem dX8_nextTick_49 : decode cX8_nextTick 49 = .ok (.getfield 124, 3) := by decide +kernel
theorem dX8_nextTick_52 : decode cX8_nextTick 52 = .ok (.aload_n 2, 1) := by decide +kernel
theorem dX8_nextTick_53 : decode cX8_nextTick 53 = .ok (.getfield 165, 3) := by decide +kernel
theorem dX8_nextTick_56 : decode cX8_nextTick 56 = .ok (.invokestatic 168, 3) := by decide +kernel
theorem dX8_nextTick_59 : decode cX8_nextTick 59 = .ok (.ireturn, 1) := by decide +kernel
theorem dX9_init_0 : decode cX9_init 0 = .ok (.aload_n 0, 1) := by decide +kernel
theorem dX9_init_1 : decode cX9_init 1 = .ok (.invokespecial 3, 3) := by decide +kernel
theorem dX9_init_4 : decode cX9_init 4 = .ok (.aload_n 0, 1) := by decide +kernel
theorem dX9_init_5 : decode cX9_init 5 = .ok (.iload_n 1, 1) := by decide +kernel
theorem dX9_init_6 : decode cX9_init 6 = .ok (.putfield 9, 3) := by decide +kernel
theorem dX9_init_9 : decode cX9_init 9 = .ok (.return_, 1) := by decide +kernel
theorem dX9_holding_0 : decode cX9_holding 0 = .ok (.aload_n 0, 1) := by decide +kernel
theorem dX9_holding_1 : decode cX9_holding 1 = .ok (.getfield 15, 3) := by decide +kernel
theorem dX9_holding_4 : decode cX9_holding 4 = .ok (.ifnull 21, 3) := by decide +kernel
theorem dX9_holding_7 : decode cX9_holding 7 = .ok (.aload_n 0, 1) := by decide +kernel
theorem dX9_holding_8 : decode cX9_holding 8 = .ok (.getfield 15, 3) := by decide +kernel
theorem dX9_holding_11 : decode cX9_holding 11 = .ok (.getfield 19, 3) := by decide +kernel
theorem dX9_holding_14 : decode cX9_holding 14 = .ok (.iload_n 1, 1) := by decide +kernel
theorem dX9_holding_15 : decode cX9_holding 15 = .ok (.if_icmp .ne 10, 3) := by decide +kernel
theorem dX9_holding_18 : decode cX9_holding 18 = .ok (.aload_n 0, 1) := by decide +kernel
theorem dX9_holding_19 : decode cX9_holding 19 = .ok (.getfield 15, 3) := by decide +kernel
theorem dX9_holding_22 : decode cX9_holding 22 = .ok (.goto 4, 3) := by decide +kernel
theorem dX9_holding_25 : decode cX9_holding 25 = .ok (.aconst_null, 1) := by decide +kernel
theorem dX9_holding_26 : decode cX9_holding 26 = .ok (.areturn, 1) := by decide +kernel
theorem dX9_tell_0 : decode cX9_tell 0 = .ok (.iload_n 1, 1) := by decide +kernel
theorem dX9_tell_1 : decode cX9_tell 1 = .ok (.tableswitch 111 0 5 #[39, 58, 77, 96, 101, 106], 39) := by decide +kernel
theorem dX9_tell_40 : decode cX9_tell 40 = .ok (.aload_n 0, 1) := by decide +kernel
theorem dX9_tell_41 : decode cX9_tell 41 = .ok (.getfield 15, 3) := by decide +kernel
theorem dX9_tell_44 : decode cX9_tell 44 = .ok (.ifnonnull 7, 3) := by decide +kernel
theorem dX9_tell_47 : decode cX9_tell 47 = .ok (.iconst (-1), 1) := by decide +kernel
theorem dX9_tell_48 : decode cX9_tell 48 = .ok (.goto 10, 3) := by decide +kernel
theorem dX9_tell_51 : decode cX9_tell 51 = .ok (.aload_n 0, 1) := by decide +kernel
theorem dX9_tell_52 : decode cX9_tell 52 = .ok (.getfield 15, 3) := by decide +kernel
theorem dX9_tell_55 : decode cX9_tell 55 = .ok (.getfield 24, 3) := by decide +kernel
theorem dX9_tell_58 : decode cX9_tell 58 = .ok (.ireturn, 1) := by decide +kernel
theorem dX9_tell_59 : decode cX9_tell 59 = .ok (.aload_n 0, 1) := by decide +kernel
theorem dX9_tell_60 : decode cX9_tell 60 = .ok (.getfield 15, 3) := by decide +kernel
theorem dX9_tell_63 : decode cX9_tell 63 = .ok (.ifnonnull 7, 3) := by decide +kernel
theorem dX9_tell_66 : decode cX9_tell 66 = .ok (.iconst (-1), 1) := by decide +kernel
theorem dX9_tell_67 : decode cX9_tell 67 = .ok (.goto 10, 3) := by decide +kernel
theorem dX9_tell_70 : decode cX9_tell 70 = .ok (.aload_n 0, 1) := by decide +kernel
theorem dX9_tell_71 : decode cX9_tell 71 = .ok (.getfield 15, 3) := by decide +kernel
theorem dX9_tell_74 : decode cX9_tell 74 = .ok (.getfield 19, 3) := by decide +kernel
theorem dX9_tell_77 : decode cX9_tell 77 = .ok (.ireturn, 1) := by decide +kernel
theorem dX9_tell_78 : decode cX9_tell 78 = .ok (.aload_n 0, 1) := by decide +kernel
theorem dX9_tell_79 : decode cX9_tell 79 = .ok (.getfield 15, 3) := by decide +kernel
theorem dX9_tell_82 : decode cX9_tell 82 = .ok (.ifnonnull 7, 3) := by decide +kernel
theorem dX9_tell_85 : decode cX9_tell 85 = .ok (.iconst (-1), 1) := by decide +kernel
theorem dX9_tell_86 : decode cX9_tell 86 = .ok (.goto 10, 3) := by decide +kernel
theorem dX9_tell_89 : decode cX9_tell 89 = .ok (.aload_n 0, 1) := by decide +kernel
theorem dX9_tell_90 : decode cX9_tell 90 = .ok (.getfield 15, 3) := by decide +kernel
theorem dX9_tell_93 : decode cX9_tell 93 = .ok (.getfield 25, 3) := by decide +kernel
theorem dX9_tell_96 : decode cX9_tell 96 = .ok (.ireturn, 1) := by decide +kernel
theorem dX9_tell_97 : decode cX9_tell 97 = .ok (.aload_n 0, 1) := by decide +kernel
theorem dX9_tell_98 : decode cX9_tell 98 = .ok (.getfield 28, 3) := by decide +kernel
theorem dX9_tell_101 : decode cX9_tell 101 = .ok (.ireturn, 1) := by decide +kernel
theorem dX9_tell_102 : decode cX9_tell 102 = .ok (.aload_n 0, 1) := by decide +kernel
theorem dX9_tell_103 : decode cX9_tell 103 = .ok (.getfield 31, 3) := by decide +kernel
theorem dX9_tell_106 : decode cX9_tell 106 = .ok (.ireturn, 1) := by decide +kernel
theorem dX9_tell_107 : decode cX9_tell 107 = .ok (.aload_n 0, 1) := by decide +kernel
theorem dX9_tell_108 : decode cX9_tell 108 = .ok (.getfield 34, 3) := by decide +kernel
theorem dX9_tell_111 : decode cX9_tell 111 = .ok (.ireturn, 1) := by decide +kernel
theorem dX9_tell_112 : decode cX9_tell 112 = .ok (.iconst (-1), 1) := by decide +kernel
theorem dX9_tell_113 : decode cX9_tell 113 = .ok (.ireturn, 1) := by decide +kernel
