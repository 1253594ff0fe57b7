theorem dX11_ending_101 : decode cX11_ending 101 = .ok (.iconst 0, 1) := by decide +kernel
theorem dX11_ending_102 : decode cX11_ending 102 = .ok (.iadd, 1) := by decide +kernel
theorem dX11_ending_103 : decode cX11_ending 103 = .ok (.istore_n 3, 1) := by decide +kernel
theorem dX11_ending_104 : decode cX11_ending 104 = .ok (.iinc 4 1, 3) := by decide +kernel
theorem dX11_ending_107 : decode cX11_ending 107 = .ok (.goto (-76), 3) := by decide +kernel
theorem dX11_ending_110 : decode cX11_ending 110 = .ok (.iload_n 3, 1) := by decide +kernel
theorem dX11_ending_111 : decode cX11_ending 111 = .ok (.iload_n 1, 1) := by decide +kernel
theorem dX11_ending_112 : decode cX11_ending 112 = .ok (.if_icmp .ne 5, 3) := by decide +kernel
theorem dX11_ending_115 : decode cX11_ending 115 = .ok (.iload_n 2, 1) := by decide +kernel
theorem dX11_ending_116 : decode cX11_ending 116 = .ok (.ireturn, 1) := by decide +kernel
theorem dX11_ending_117 : decode cX11_ending 117 = .ok (.iinc 2 1, 3) := by decide +kernel
theorem dX11_ending_120 : decode cX11_ending 120 = .ok (.goto (-118), 3) := by decide +kernel
theorem dX11_ending_123 : decode cX11_ending 123 = .ok (.iconst (-1), 1) := by decide +kernel
theorem dX11_ending_124 : decode cX11_ending 124 = .ok (.ireturn, 1) := by decide +kernel
theorem dX11_strikes_0 : decode cX11_strikes 0 = .ok (.iload_n 1, 1) := by decide +kernel
theorem dX11_strikes_1 : decode cX11_strikes 1 = .ok (.invokestatic 158, 3) := by decide +kernel
theorem dX11_strikes_4 : decode cX11_strikes 4 = .ok (.ifCond .eq 12, 3) := by decide +kernel
theorem dX11_strikes_7 : decode cX11_strikes 7 = .ok (.aload_n 0, 1) := by decide +kernel
theorem dX11_strikes_8 : decode cX11_strikes 8 = .ok (.getfield 16, 3) := by decide +kernel
theorem dX11_strikes_11 : decode cX11_strikes 11 = .ok (.iload_n 1, 1) := by decide +kernel
theorem dX11_strikes_12 : decode cX11_strikes 12 = .ok (.iaload, 1) := by decide +kernel
theorem dX11_strikes_13 : decode cX11_strikes 13 = .ok (.goto 4, 3) := by decide +kernel
theorem dX11_strikes_16 : decode cX11_strikes 16 = .ok (.iconst (-1), 1) := by decide +kernel
theorem dX11_strikes_17 : decode cX11_strikes 17 = .ok (.ireturn, 1) := by decide +kernel
theorem dX11_banned_0 : decode cX11_banned 0 = .ok (.iconst 0, 1) := by decide +kernel
theorem dX11_banned_1 : decode cX11_banned 1 = .ok (.istore_n 2, 1) := by decide +kernel
theorem dX11_banned_2 : decode cX11_banned 2 = .ok (.iconst 0, 1) := by decide +kernel
theorem dX11_banned_3 : decode cX11_banned 3 = .ok (.istore_n 3, 1) := by decide +kernel
theorem dX11_banned_4 : decode cX11_banned 4 = .ok (.iload_n 3, 1) := by decide +kernel
theorem dX11_banned_5 : decode cX11_banned 5 = .ok (.sipush 10000, 3) := by decide +kernel
theorem dX11_banned_8 : decode cX11_banned 8 = .ok (.if_icmp .ge 30, 3) := by decide +kernel
theorem dX11_banned_11 : decode cX11_banned 11 = .ok (.aload_n 0, 1) := by decide +kernel
theorem dX11_banned_12 : decode cX11_banned 12 = .ok (.iload_n 3, 1) := by decide +kernel
theorem dX11_banned_13 : decode cX11_banned 13 = .ok (.invokevirtual 170, 3) := by decide +kernel
theorem dX11_banned_16 : decode cX11_banned 16 = .ok (.ifCond .ne 6, 3) := by decide +kernel
theorem dX11_banned_19 : decode cX11_banned 19 = .ok (.goto 13, 3) := by decide +kernel
theorem dX11_banned_22 : decode cX11_banned 22 = .ok (.iload_n 2, 1) := by decide +kernel
theorem dX11_banned_23 : decode cX11_banned 23 = .ok (.iload_n 1, 1) := by decide +kernel
theorem dX11_banned_24 : decode cX11_banned 24 = .ok (.if_icmp .ne 5, 3) := by decide +kernel
theorem dX11_banned_27 : decode cX11_banned 27 = .ok (.iload_n 3, 1) := by decide +kernel
theorem dX11_banned_28 : decode cX11_banned 28 = .ok (.ireturn, 1) := by decide +kernel
theorem dX11_banned_29 : decode cX11_banned 29 = .ok (.iinc 2 1, 3) := by decide +kernel
theorem dX11_banned_32 : decode cX11_banned 32 = .ok (.iinc 3 1, 3) := by decide +kernel
theorem dX11_banned_35 : decode cX11_banned 35 = .ok (.goto (-31), 3) := by decide +kernel
theorem dX11_banned_38 : decode cX11_banned 38 = .ok (.iconst (-1), 1) := by decide +kernel
theorem dX11_banned_39 : decode cX11_banned 39 = .ok (.ireturn, 1) := by decide +kernel
theorem dX11_waits_0 : decode cX11_waits 0 = .ok (.aload_n 0, 1) := by decide +kernel
theorem dX11_waits_1 : decode cX11_waits 1 = .ok (.iload_n 1, 1) := by decide +kernel
theorem dX11_waits_2 : decode cX11_waits 2 = .ok (.invokevirtual 152, 3) := by decide +kernel
theorem dX11_waits_5 : decode cX11_waits 5 = .ok (.ifCond .eq 29, 3) := by decide +kernel
theorem dX11_waits_8 : decode cX11_waits 8 = .ok (.iload_n 2, 1) := by decide +kernel
theorem dX11_waits_9 : decode cX11_waits 9 = .ok (.iconst 0, 1) := by decide +kernel
theorem dX11_waits_10 : decode cX11_waits 10 = .ok (.iconst 2, 1) := by decide +kernel
theorem dX11_waits_11 : decode cX11_waits 11 = .ok (.invokestatic 90, 3) := by decide +kernel
theorem dX11_waits_14 : decode cX11_waits 14 = .ok (.ifCond .eq 20, 3) := by decide +kernel
theorem dX11_waits_17 : decode cX11_waits 17 = .ok (.aload_n 0, 1) := by decide +kernel
theorem dX11_waits_18 : decode cX11_waits 18 = .ok (.getfield 7, 3) := by decide +kernel
theorem dX11_waits_21 : decode cX11_waits 21 = .ok (.iload_n 1, 1) := by decide +kernel
theorem dX11_waits_22 : decode cX11_waits 22 = .ok (.invokestatic 80, 3) := by decide +kernel
theorem dX11_waits_25 : decode cX11_waits 25 = .ok (.bipush 7, 2) := by decide +kernel
theorem dX11_waits_27 : decode cX11_waits 27 = .ok (.iadd, 1) := by decide +kernel
theorem dX11_waits_28 : decode cX11_waits 28 = .ok (.iload_n 2, 1) := by decide +kernel
theorem dX11_waits_29 : decode cX11_waits 29 = .ok (.iadd, 1) := by decide +kernel
theorem dX11_waits_30 : decode cX11_waits 30 = .ok (.iaload, 1) := by decide +kernel
theorem dX11_waits_31 : decode cX11_waits 31 = .ok (.goto 4, 3) := by decide +kernel
theorem dX11_waits_34 : decode cX11_waits 34 = .ok (.iconst (-1), 1) := by decide +kernel
theorem dX11_waits_35 : decode cX11_waits 35 = .ok (.ireturn, 1) := by decide +kernel
theorem dX11_roomLeft_0 : decode cX11_roomLeft 0 = .ok (.aload_n 0, 1) := by decide +kernel
theorem dX11_roomLeft_1 : decode cX11_roomLeft 1 = .ok (.getfield 7, 3) := by decide +kernel
theorem dX11_roomLeft_4 : decode cX11_roomLeft 4 = .ok (.iload_n 1, 1) := by decide +kernel
theorem dX11_roomLeft_5 : decode cX11_roomLeft 5 = .ok (.invokestatic 80, 3) := by decide +kernel
theorem dX11_roomLeft_8 : decode cX11_roomLeft 8 = .ok (.iconst 3, 1) := by decide +kernel
theorem dX11_roomLeft_9 : decode cX11_roomLeft 9 = .ok (.iadd, 1) := by decide +kernel
theorem dX11_roomLeft_10 : decode cX11_roomLeft 10 = .ok (.iaload, 1) := by decide +kernel
theorem dX11_roomLeft_11 : decode cX11_roomLeft 11 = .ok (.ifCond .eq 5, 3) := by decide +kernel
theorem dX11_roomLeft_14 : decode cX11_roomLeft 14 = .ok (.iconst 0, 1) := by decide +kernel
theorem dX11_roomLeft_15 : decode cX11_roomLeft 15 = .ok (.ireturn, 1) := by decide +kernel
theorem dX11_roomLeft_16 : decode cX11_roomLeft 16 = .ok (.aload_n 0, 1) := by decide +kernel
theorem dX11_roomLeft_17 : decode cX11_roomLeft 17 = .ok (.getfield 7, 3) := by decide +kernel
theorem dX11_roomLeft_20 : decode cX11_roomLeft 20 = .ok (.iload_n 1, 1) := by decide +kernel
theorem dX11_roomLeft_21 : decode cX11_roomLeft 21 = .ok (.invokestatic 80, 3) := by decide +kernel
theorem dX11_roomLeft_24 : decode cX11_roomLeft 24 = .ok (.iconst 1, 1) := by decide +kernel
theorem dX11_roomLeft_25 : decode cX11_roomLeft 25 = .ok (.iadd, 1) := by decide +kernel
theorem dX11_roomLeft_26 : decode cX11_roomLeft 26 = .ok (.iaload, 1) := by decide +kernel
theorem dX11_roomLeft_27 : decode cX11_roomLeft 27 = .ok (.aload_n 0, 1) := by decide +kernel
theorem dX11_roomLeft_28 : decode cX11_roomLeft 28 = .ok (.iload_n 1, 1) := by decide +kernel
theorem dX11_roomLeft_29 : decode cX11_roomLeft 29 = .ok (.invokevirtual 115, 3) := by decide +kernel
theorem dX11_roomLeft_32 : decode cX11_roomLeft 32 = .ok (.isub, 1) := by decide +kernel
theorem dX11_roomLeft_33 : decode cX11_roomLeft 33 = .ok (.aload_n 0, 1) := by decide +kernel
theorem dX11_roomLeft_34 : decode cX11_roomLeft 34 = .ok (.getfield 7, 3) := by decide +kernel
theorem dX11_roomLeft_37 : decode cX11_roomLeft 37 = .ok (.bipush 8, 2) := by decide +kernel
theorem dX11_roomLeft_39 : decode cX11_roomLeft 39 = .ok (.iaload, 1) := by decide +kernel
theorem dX11_roomLeft_40 : decode cX11_roomLeft 40 = .ok (.aload_n 0, 1) := by decide +kernel
theorem dX11_roomLeft_41 : decode cX11_roomLeft 41 = .ok (.iconst (-1), 1) := by decide +kernel
theorem dX11_roomLeft_42 : decode cX11_roomLeft 42 = .ok (.invokevirtual 115, 3) := by decide +kernel
theorem dX11_roomLeft_45 : decode cX11_roomLeft 45 = .ok (.isub, 1) := by decide +kernel
theorem dX11_roomLeft_46 : decode cX11_roomLeft 46 = .ok (.invokestatic 267, 3) := by decide +kernel
theorem dX11_roomLeft_49 : decode cX11_roomLeft 49 = .ok (.istore_n 2, 1) := by decide +kernel
theorem dX11_roomLeft_50 : decode cX11_roomLeft 50 = .ok (.iconst 0, 1) := by decide +kernel
theorem dX11_roomLeft_51 : decode cX11_roomLeft 51 = .ok (.iload_n 2, 1) := by decide +kernel
theorem dX11_roomLeft_52 : decode cX11_roomLeft 52 = .ok (.sipush 400, 3) := by decide +kernel
theorem dX11_roomLeft_55 : decode cX11_roomLeft 55 = .ok (.aload_n 0, 1) := by decide +kernel
theorem dX11_roomLeft_56 : decode cX11_roomLeft 56 = .ok (.getfield 7, 3) := by decide +kernel
theorem dX11_roomLeft_59 : decode cX11_roomLeft 59 = .ok (.iconst 1, 1) := by decide +kernel
theorem dX11_roomLeft_60 : decode cX11_roomLeft 60 = .ok (.iaload, 1) := by decide +kernel
theorem dX11_roomLeft_61 : decode cX11_roomLeft 61 = .ok (.isub, 1) := by decide +kernel
theorem dX11_roomLeft_62 : decode cX11_roomLeft 62 = .ok (.invokestatic 267, 3) := by decide +kernel
theorem dX11_roomLeft_65 : decode cX11_roomLeft 65 = .ok (.invokestatic 118, 3) := by decide +kernel
theorem dX11_roomLeft_68 : decode cX11_roomLeft 68 = .ok (.ireturn, 1) := by decide +kernel
theorem dX11_partOf_0 : decode cX11_partOf 0 = .ok (.iconst 0, 1) := by decide +kernel
theorem dX11_partOf_1 : decode cX11_partOf 1 = .ok (.istore_n 3, 1) := by decide +kernel
theorem dX11_partOf_2 : decode cX11_partOf 2 = .ok (.iconst 0, 1) := by decide +kernel
theorem dX11_partOf_3 : decode cX11_partOf 3 = .ok (.istore 4, 2) := by decide +kernel
theorem dX11_partOf_5 : decode cX11_partOf 5 = .ok (.iload 4, 2) := by decide +kernel
theorem dX11_partOf_7 : decode cX11_partOf 7 = .ok (.iconst 5, 1) := by decide +kernel
theorem dX11_partOf_8 : decode cX11_partOf 8 = .ok (.if_icmp .ge 24, 3) := by decide +kernel
theorem dX11_partOf_11 : decode cX11_partOf 11 = .ok (.iload_n 3, 1) := by decide +kernel
theorem dX11_partOf_12 : decode cX11_partOf 12 = .ok (.aload_n 0, 1) := by decide +kernel
theorem dX11_partOf_13 : decode cX11_partOf 13 = .ok (.getfield 7, 3) := by decide +kernel
theorem dX11_partOf_16 : decode cX11_partOf 16 = .ok (.iload 4, 2) := by decide +kernel
theorem dX11_partOf_18 : decode cX11_partOf 18 = .ok (.invokestatic 80, 3) := by decide +kernel
theorem dX11_partOf_21 : decode cX11_partOf 21 = .ok (.iload_n 2, 1) := by decide +kernel
theorem dX11_partOf_22 : decode cX11_partOf 22 = .ok (.iadd, 1) := by decide +kernel
theorem dX11_partOf_23 : decode cX11_partOf 23 = .ok (.iaload, 1) := by decide +kernel
theorem dX11_partOf_24 : decode cX11_partOf 24 = .ok (.iadd, 1) := by decide +kernel
theorem dX11_partOf_25 : decode cX11_partOf 25 = .ok (.istore_n 3, 1) := by decide +kernel
theorem dX11_partOf_26 : decode cX11_partOf 26 = .ok (.iinc 4 1, 3) := by decide +kernel
theorem dX11_partOf_29 : decode cX11_partOf 29 = .ok (.goto (-24), 3) := by decide +kernel
theorem dX11_partOf_32 : decode cX11_partOf 32 = .ok (.iload_n 3, 1) := by decide +kernel
theorem dX11_partOf_33 : decode cX11_partOf 33 = .ok (.ifCond .ne 7, 3) := by decide +kernel
theorem dX11_partOf_36 : decode cX11_partOf 36 = .ok (.iconst 0, 1) := by decide +kernel
theorem dX11_partOf_37 : decode cX11_partOf 37 = .ok (.goto 20, 3) := by decide +kernel
theorem dX11_partOf_40 : decode cX11_partOf 40 = .ok (.sipush 1000, 3) := by decide +kernel
theorem dX11_partOf_43 : decode cX11_partOf 43 = .ok (.aload_n 0, 1) := by decide +kernel
theorem dX11_partOf_44 : decode cX11_partOf 44 = .ok (.getfield 7, 3) := by decide +kernel
theorem dX11_partOf_47 : decode cX11_partOf 47 = .ok (.iload_n 1, 1) := by decide +kernel
theorem dX11_partOf_48 : decode cX11_partOf 48 = .ok (.invokestatic 80, 3) := by decide +kernel
theorem dX11_partOf_51 : decode cX11_partOf 51 = .ok (.iload_n 2, 1) := by decide +kernel
theorem dX11_partOf_52 : decode cX11_partOf 52 = .ok (.iadd, 1) := by decide +kernel
theorem dX11_partOf_53 : decode cX11_partOf 53 = .ok (.iaload, 1) := by decide +kernel
theorem dX11_partOf_54 : decode cX11_partOf 54 = .ok (.imul, 1) := by decide +kernel
theorem dX11_partOf_55 : decode cX11_partOf 55 = .ok (.iload_n 3, 1) := by decide +kernel
theorem dX11_partOf_56 : decode cX11_partOf 56 = .ok (.idiv, 1) := by decide +kernel
theorem dX11_partOf_57 : decode cX11_partOf 57 = .ok (.ireturn, 1) := by decide +kernel
theorem dX11_eldestOf_0 : decode cX11_eldestOf 0 = .ok (.iconst (-1), 1) := by decide +kernel
theorem dX11_eldestOf_1 : decode cX11_eldestOf 1 = .ok (.istore_n 2, 1) := by decide +kernel
theorem dX11_eldestOf_2 : decode cX11_eldestOf 2 = .ok (.iconst 0, 1) := by decide +kernel
theorem dX11_eldestOf_3 : decode cX11_eldestOf 3 = .ok (.istore_n 3, 1) := by decide +kernel
theorem dX11_eldestOf_4 : decode cX11_eldestOf 4 = .ok (.iload_n 3, 1) := by decide +kernel
theorem dX11_eldestOf_5 : decode cX11_eldestOf 5 = .ok (.aload_n 0, 1) := by decide +kernel
theorem dX11_eldestOf_6 : decode cX11_eldestOf 6 = .ok (.getfield 7, 3) := by decide +kernel
theorem dX11_eldestOf_9 : decode cX11_eldestOf 9 = .ok (.iconst 1, 1) := by decide +kernel
theorem dX11_eldestOf_10 : decode cX11_eldestOf 10 = .ok (.iaload, 1) := by decide +kernel
theorem dX11_eldestOf_11 : decode cX11_eldestOf 11 = .ok (.if_icmp .ge 51, 3) := by decide +kernel
theorem dX11_eldestOf_14 : decode cX11_eldestOf 14 = .ok (.aload_n 0, 1) := by decide +kernel
theorem dX11_eldestOf_15 : decode cX11_eldestOf 15 = .ok (.iload_n 3, 1) := by decide +kernel
theorem dX11_eldestOf_16 : decode cX11_eldestOf 16 = .ok (.iconst 0, 1) := by decide +kernel
theorem dX11_eldestOf_17 : decode cX11_eldestOf 17 = .ok (.invokevirtual 94, 3) := by decide +kernel
theorem dX11_eldestOf_20 : decode cX11_eldestOf 20 = .ok (.iload_n 1, 1) := by decide +kernel
theorem dX11_eldestOf_21 : decode cX11_eldestOf 21 = .ok (.if_icmp .ne 35, 3) := by decide +kernel
theorem dX11_eldestOf_24 : decode cX11_eldestOf 24 = .ok (.aload_n 0, 1) := by decide +kernel
theorem dX11_eldestOf_25 : decode cX11_eldestOf 25 = .ok (.iload_n 3, 1) := by decide +kernel
theorem dX11_eldestOf_26 : decode cX11_eldestOf 26 = .ok (.bipush 6, 2) := by decide +kernel
theorem dX11_eldestOf_28 : decode cX11_eldestOf 28 = .ok (.invokevirtual 94, 3) := by decide +kernel
theorem dX11_eldestOf_31 : decode cX11_eldestOf 31 = .ok (.ifCond .ne 25, 3) := by decide +kernel
theorem dX11_eldestOf_34 : decode cX11_eldestOf 34 = .ok (.iload_n 2, 1) := by decide +kernel
theorem dX11_eldestOf_35 : decode cX11_eldestOf 35 = .ok (.iconst (-1), 1) := by decide +kernel
theorem dX11_eldestOf_36 : decode cX11_eldestOf 36 = .ok (.if_icmp .eq 18, 3) := by decide +kernel
theorem dX11_eldestOf_39 : decode cX11_eldestOf 39 = .ok (.aload_n 0, 1) := by decide +kernel
theorem dX11_eldestOf_40 : decode cX11_eldestOf 40 = .ok (.iload_n 3, 1) := by decide +kernel
theorem dX11_eldestOf_41 : decode cX11_eldestOf 41 = .ok (.iconst 5, 1) := by decide +kernel
theorem dX11_eldestOf_42 : decode cX11_eldestOf 42 = .ok (.invokevirtual 94, 3) := by decide +kernel
theorem dX11_eldestOf_45 : decode cX11_eldestOf 45 = .ok (.aload_n 0, 1) := by decide +kernel
theorem dX11_eldestOf_46 : decode cX11_eldestOf 46 = .ok (.iload_n 2, 1) := by decide +kernel
theorem dX11_eldestOf_47 : decode cX11_eldestOf 47 = .ok (.iconst 5, 1) := by decide +kernel
theorem dX11_eldestOf_48 : decode cX11_eldestOf 48 = .ok (.invokevirtual 94, 3) := by decide +kernel
theorem dX11_eldestOf_51 : decode cX11_eldestOf 51 = .ok (.if_icmp .ge 5, 3) := by decide +kernel
theorem dX11_eldestOf_54 : decode cX11_eldestOf 54 = .ok (.iload_n 3, 1) := by decide +kernel
theorem dX11_eldestOf_55 : decode cX11_eldestOf 55 = .ok (.istore_n 2, 1) := by decide +kernel
theorem dX11_eldestOf_56 : decode cX11_eldestOf 56 = .ok (.iinc 3 1, 3) := by decide +kernel
theorem dX11_eldestOf_59 : decode cX11_eldestOf 59 = .ok (.goto (-55), 3) := by decide +kernel
theorem dX11_eldestOf_62 : decode cX11_eldestOf 62 = .ok (.iload_n 2, 1) := by decide +kernel
theorem dX11_eldestOf_63 : decode cX11_eldestOf 63 = .ok (.ireturn, 1) := by decide +kernel
theorem dX11_sizesOf_0 : decode cX11_sizesOf 0 = .ok (.iconst 0, 1) := by decide +kernel
theorem dX11_sizesOf_1 : decode cX11_sizesOf 1 = .ok (.istore_n 2, 1) := by decide +kernel
theorem dX11_sizesOf_2 : decode cX11_sizesOf 2 = .ok (.iconst 0, 1) := by decide +kernel
theorem dX11_sizesOf_3 : decode cX11_sizesOf 3 = .ok (.istore_n 3, 1) := by decide +kernel
theorem dX11_sizesOf_4 : decode cX11_sizesOf 4 = .ok (.iload_n 3, 1) := by decide +kernel
theorem dX11_sizesOf_5 : decode cX11_sizesOf 5 = .ok (.aload_n 0, 1) := by decide +kernel
theorem dX11_sizesOf_6 : decode cX11_sizesOf 6 = .ok (.getfield 7, 3) := by decide +kernel
theorem dX11_sizesOf_9 : decode cX11_sizesOf 9 = .ok (.iconst 1, 1) := by decide +kernel
theorem dX11_sizesOf_10 : decode cX11_sizesOf 10 = .ok (.iaload, 1) := by decide +kernel
theorem dX11_sizesOf_11 : decode cX11_sizesOf 11 = .ok (.if_icmp .ge 42, 3) := by decide +kernel
theorem dX11_sizesOf_14 : decode cX11_sizesOf 14 = .ok (.iload_n 2, 1) := by decide +kernel
theorem dX11_sizesOf_15 : decode cX11_sizesOf 15 = .ok (.aload_n 0, 1) := by decide +kernel
theorem dX11_sizesOf_16 : decode cX11_sizesOf 16 = .ok (.iload_n 3, 1) := by decide +kernel
theorem dX11_sizesOf_17 : decode cX11_sizesOf 17 = .ok (.iconst 0, 1) := by decide +kernel
theorem dX11_sizesOf_18 : decode cX11_sizesOf 18 = .ok (.invokevirtual 94, 3) := by decide +kernel
theorem dX11_sizesOf_21 : decode cX11_sizesOf 21 = .ok (.iload_n 1, 1) := by decide +kernel
theorem dX11_sizesOf_22 : decode cX11_sizesOf 22 = .ok (.if_icmp .ne 22, 3) := by decide +kernel
theorem dX11_sizesOf_25 : decode cX11_sizesOf 25 = .ok (.aload_n 0, 1) := by decide +kernel
theorem dX11_sizesOf_26 : decode cX11_sizesOf 26 = .ok (.iload_n 3, 1) := by decide +kernel
theorem dX11_sizesOf_27 : decode cX11_sizesOf 27 = .ok (.bipush 6, 2) := by decide +kernel
theorem dX11_sizesOf_29 : decode cX11_sizesOf 29 = .ok (.invokevirtual 94, 3) := by decide +kernel
theorem dX11_sizesOf_32 : decode cX11_sizesOf 32 = .ok (.ifCond .ne 12, 3) := by decide +kernel
theorem dX11_sizesOf_35 : decode cX11_sizesOf 35 = .ok (.aload_n 0, 1) := by decide +kernel
theorem dX11_sizesOf_36 : decode cX11_sizesOf 36 = .ok (.iload_n 3, 1) := by decide +kernel
theorem dX11_sizesOf_37 : decode cX11_sizesOf 37 = .ok (.iconst 2, 1) := by decide +kernel
theorem dX11_sizesOf_38 : decode cX11_sizesOf 38 = .ok (.invokevirtual 94, 3) := by decide +kernel
theorem dX11_sizesOf_41 : decode cX11_sizesOf 41 = .ok (.goto 4, 3) := by decide +kernel
theorem dX11_sizesOf_44 : decode cX11_sizesOf 44 = .ok (.iconst 0, 1) := by decide +kernel
theorem dX11_sizesOf_45 : decode cX11_sizesOf 45 = .ok (.iadd, 1) := by decide +kernel
theorem dX11_sizesOf_46 : decode cX11_sizesOf 46 = .ok (.istore_n 2, 1) := by decide +kernel
theorem dX11_sizesOf_47 : decode cX11_sizesOf 47 = .ok (.iinc 3 1, 3) := by decide +kernel
theorem dX11_sizesOf_50 : decode cX11_sizesOf 50 = .ok (.goto (-46), 3) := by decide +kernel
theorem dX11_sizesOf_53 : decode cX11_sizesOf 53 = .ok (.iload_n 2, 1) := by decide +kernel
theorem dX11_sizesOf_54 : decode cX11_sizesOf 54 = .ok (.ireturn, 1) := by decide +kernel
theorem dX11_share_0 : decode cX11_share 0 = .ok (.aload_n 0, 1) := by decide +kernel
theorem dX11_share_1 : decode cX11_share 1 = .ok (.iload_n 1, 1) := by decide +kernel
theorem dX11_share_2 : decode cX11_share 2 = .ok (.invokevirtual 152, 3) := by decide +kernel
theorem dX11_share_5 : decode cX11_share 5 = .ok (.ifCond .ne 5, 3) := by decide +kernel
theorem dX11_share_8 : decode cX11_share 8 = .ok (.iconst (-1), 1) := by decide +kernel
theorem dX11_share_9 : decode cX11_share 9 = .ok (.ireturn, 1) := by decide +kernel
theorem dX11_share_10 : decode cX11_share 10 = .ok (.iload_n 2, 1) := by decide +kernel
theorem dX11_share_11 : decode cX11_share 11 = .ok (.tableswitch 65 0 4 #[33, 40, 47, 53, 59], 33) := by decide +kernel
theorem dX11_share_44 : decode cX11_share 44 = .ok (.aload_n 0, 1) := by decide +kernel
theorem dX11_share_45 : decode cX11_share 45 = .ok (.iload_n 1, 1) := by decide +kernel
theorem dX11_share_46 : decode cX11_share 46 = .ok (.iconst 5, 1) := by decide +kernel
theorem dX11_share_47 : decode cX11_share 47 = .ok (.invokevirtual 270, 3) := by decide +kernel
theorem dX11_share_50 : decode cX11_share 50 = .ok (.ireturn, 1) := by decide +kernel
theorem dX11_share_51 : decode cX11_share 51 = .ok (.aload_n 0, 1) := by decide +kernel
theorem dX11_share_52 : decode cX11_share 52 = .ok (.iload_n 1, 1) := by decide +kernel
theorem dX11_share_53 : decode cX11_share 53 = .ok (.iconst 0, 1) := by decide +kernel
theorem dX11_share_54 : decode cX11_share 54 = .ok (.invokevirtual 270, 3) := by decide +kernel
theorem dX11_share_57 : decode cX11_share 57 = .ok (.ireturn, 1) := by decide +kernel
theorem dX11_share_58 : decode cX11_share 58 = .ok (.aload_n 0, 1) := by decide +kernel
theorem dX11_share_59 : decode cX11_share 59 = .ok (.iload_n 1, 1) := by decide +kernel
theorem dX11_share_60 : decode cX11_share 60 = .ok (.invokevirtual 273, 3) := by decide +kernel
theorem dX11_share_63 : decode cX11_share 63 = .ok (.ireturn, 1) := by decide +kernel
theorem dX11_share_64 : decode cX11_share 64 = .ok (.aload_n 0, 1) := by decide +kernel
theorem dX11_share_65 : decode cX11_share 65 = .ok (.iload_n 1, 1) := by decide +kernel
theorem dX11_share_66 : decode cX11_share 66 = .ok (.invokevirtual 276, 3) := by decide +kernel
theorem dX11_share_69 : decode cX11_share 69 = .ok (.ireturn, 1) := by decide +kernel
theorem dX11_share_70 : decode cX11_share 70 = .ok (.aload_n 0, 1) := by decide +kernel
theorem dX11_share_71 : decode cX11_share 71 = .ok (.iload_n 1, 1) := by decide +kernel
theorem dX11_share_72 : decode cX11_share 72 = .ok (.invokevirtual 279, 3) := by decide +kernel
theorem dX11_share_75 : decode cX11_share 75 = .ok (.ireturn, 1) := by decide +kernel
theorem dX11_share_76 : decode cX11_share 76 = .ok (.iconst (-1), 1) := by decide +kernel
theorem dX11_share_77 : decode cX11_share 77 = .ok (.ireturn, 1) := by decide +kernel
theorem dX11_path_0 : decode cX11_path 0 = .ok (.aload_n 0, 1) := by decide +kernel
theorem dX11_path_1 : decode cX11_path 1 = .ok (.iload_n 1, 1) := by decide +kernel
theorem dX11_path_2 : decode cX11_path 2 = .ok (.invokevirtual 161, 3) := by decide +kernel
theorem dX11_path_5 : decode cX11_path 5 = .ok (.ifCond .eq 7, 3) := by decide +kernel
theorem dX11_path_8 : decode cX11_path 8 = .ok (.iload_n 2, 1) := by decide +kernel
theorem dX11_path_9 : decode cX11_path 9 = .ok (.ifCond .ge 5, 3) := by decide +kernel
theorem dX11_path_12 : decode cX11_path 12 = .ok (.iconst (-1), 1) := by decide +kernel
theorem dX11_path_13 : decode cX11_path 13 = .ok (.ireturn, 1) := by decide +kernel
theorem dX11_path_14 : decode cX11_path 14 = .ok (.iload_n 1, 1) := by decide +kernel
theorem dX11_path_15 : decode cX11_path 15 = .ok (.istore_n 3, 1) := by decide +kernel
theorem dX11_path_16 : decode cX11_path 16 = .ok (.iconst 0, 1) := by decide +kernel
theorem dX11_path_17 : decode cX11_path 17 = .ok (.istore 4, 2) := by decide +kernel
theorem dX11_path_19 : decode cX11_path 19 = .ok (.iload 4, 2) := by decide +kernel
theorem dX11_path_21 : decode cX11_path 21 = .ok (.iload_n 2, 1) := by decide +kernel
theorem dX11_path_22 : decode cX11_path 22 = .ok (.if_icmp .ge 21, 3) := by decide +kernel
theorem dX11_path_25 : decode cX11_path 25 = .ok (.iload_n 3, 1) := by decide +kernel
theorem dX11_path_26 : decode cX11_path 26 = .ok (.iconst (-1), 1) := by decide +kernel
theorem dX11_path_27 : decode cX11_path 27 = .ok (.if_icmp .eq 16, 3) := by decide +kernel
theorem dX11_path_30 : decode cX11_path 30 = .ok (.aload_n 0, 1) := by decide +kernel
theorem dX11_path_31 : decode cX11_path 31 = .ok (.iload_n 3, 1) := by decide +kernel
theorem dX11_path_32 : decode cX11_path 32 = .ok (.iconst 4, 1) := by decide +kernel
theorem dX11_path_33 : decode cX11_path 33 = .ok (.invokevirtual 94, 3) := by decide +kernel
theorem dX11_path_36 : decode cX11_path 36 = .ok (.istore_n 3, 1) := by decide +kernel
theorem dX11_path_37 : decode cX11_path 37 = .ok (.iinc 4 1, 3) := by decide +kernel
theorem dX11_path_40 : decode cX11_path 40 = .ok (.goto (-21), 3) := by decide +kernel
theorem dX11_path_43 : decode cX11_path 43 = .ok (.iload_n 3, 1) := by decide +kernel
theorem dX11_path_44 : decode cX11_path 44 = .ok (.ireturn, 1) := by decide +kernel
theorem dX11_takenOn_0 : decode cX11_takenOn 0 = .ok (.iconst 0, 1) := by decide +kernel
theorem dX11_takenOn_1 : decode cX11_takenOn 1 = .ok (.istore_n 3, 1) := by decide +kernel
theorem dX11_takenOn_2 : decode cX11_takenOn 2 = .ok (.aload_n 0, 1) := by decide +kernel
theorem dX11_takenOn_3 : decode cX11_takenOn 3 = .ok (.iconst 0, 1) := by decide +kernel
theorem dX11_takenOn_4 : decode cX11_takenOn 4 = .ok (.invokevirtual 202, 3) := by decide +kernel
theorem dX11_takenOn_7 : decode cX11_takenOn 7 = .ok (.istore 4, 2) := by decide +kernel
theorem dX11_takenOn_9 : decode cX11_takenOn 9 = .ok (.iload 4, 2) := by decide +kernel
theorem dX11_takenOn_11 : decode cX11_takenOn 11 = .ok (.iconst (-1), 1) := by decide +kernel
theorem dX11_takenOn_12 : decode cX11_takenOn 12 = .ok (.if_icmp .eq 55, 3) := by decide +kernel
theorem dX11_takenOn_15 : decode cX11_takenOn 15 = .ok (.aload_n 0, 1) := by decide +kernel
theorem dX11_takenOn_16 : decode cX11_takenOn 16 = .ok (.iload 4, 2) := by decide +kernel
theorem dX11_takenOn_18 : decode cX11_takenOn 18 = .ok (.invokevirtual 206, 3) := by decide +kernel
theorem dX11_takenOn_21 : decode cX11_takenOn 21 = .ok (.istore 5, 2) := by decide +kernel
theorem dX11_takenOn_23 : decode cX11_takenOn 23 = .ok (.iload 5, 2) := by decide +kernel
theorem dX11_takenOn_25 : decode cX11_takenOn 25 = .ok (.iload_n 2, 1) := by decide +kernel
theorem dX11_takenOn_26 : decode cX11_takenOn 26 = .ok (.if_icmp .ne 5, 3) := by decide +kernel
theorem dX11_takenOn_29 : decode cX11_takenOn 29 = .ok (.iload_n 3, 1) := by decide +kernel
theorem dX11_takenOn_30 : decode cX11_takenOn 30 = .ok (.ireturn, 1) := by decide +kernel
theorem dX11_takenOn_31 : decode cX11_takenOn 31 = .ok (.iload_n 3, 1) := by decide +kernel
theorem dX11_takenOn_32 : decode cX11_takenOn 32 = .ok (.iload_n 1, 1) := by decide +kernel
theorem dX11_takenOn_33 : decode cX11_takenOn 33 = .ok (.if_icmp .ne 6, 3) := by decide +kernel
theorem dX11_takenOn_36 : decode cX11_takenOn 36 = .ok (.iload 5, 2) := by decide +kernel
theorem dX11_takenOn_38 : decode cX11_takenOn 38 = .ok (.ireturn, 1) := by decide +kernel
theorem dX11_takenOn_39 : decode cX11_takenOn 39 = .ok (.aload_n 0, 1) := by decide +kernel
theorem dX11_takenOn_40 : decode cX11_takenOn 40 = .ok (.iload 5, 2) := by decide +kernel
theorem dX11_takenOn_42 : decode cX11_takenOn 42 = .ok (.invokevirtual 180, 3) := by decide +kernel
theorem dX11_takenOn_45 : decode cX11_takenOn 45 = .ok (.aload_n 0, 1) := by decide +kernel
theorem dX11_takenOn_46 : decode cX11_takenOn 46 = .ok (.iload 5, 2) := by decide +kernel
theorem dX11_takenOn_48 : decode cX11_takenOn 48 = .ok (.bipush 6, 2) := by decide +kernel
theorem dX11_takenOn_50 : decode cX11_takenOn 50 = .ok (.iconst 3, 1) := by decide +kernel
theorem dX11_takenOn_51 : decode cX11_takenOn 51 = .ok (.invokevirtual 121, 3) := by decide +kernel
theorem dX11_takenOn_54 : decode cX11_takenOn 54 = .ok (.iinc 3 1, 3) := by decide +kernel
theorem dX11_takenOn_57 : decode cX11_takenOn 57 = .ok (.aload_n 0, 1) := by decide +kernel
theorem dX11_takenOn_58 : decode cX11_takenOn 58 = .ok (.iconst 0, 1) := by decide +kernel
theorem dX11_takenOn_59 : decode cX11_takenOn 59 = .ok (.invokevirtual 202, 3) := by decide +kernel
theorem dX11_takenOn_62 : decode cX11_takenOn 62 = .ok (.istore 4, 2) := by decide +kernel
theorem dX11_takenOn_64 : decode cX11_takenOn 64 = .ok (.goto (-55), 3) := by decide +kernel
theorem dX11_takenOn_67 : decode cX11_takenOn 67 = .ok (.iconst (-1), 1) := by decide +kernel
theorem dX11_takenOn_68 : decode cX11_takenOn 68 = .ok (.ireturn, 1) := by decide +kernel
theorem dX11_ahead_0 : decode cX11_ahead 0 = .ok (.iload_n 1, 1) := by decide +kernel
theorem dX11_ahead_1 : decode cX11_ahead 1 = .ok (.ifCond .ge 5, 3) := by decide +kernel
theorem dX11_ahead_4 : decode cX11_ahead 4 = .ok (.iconst (-1), 1) := by decide +kernel
theorem dX11_ahead_5 : decode cX11_ahead 5 = .ok (.ireturn, 1) := by decide +kernel
theorem dX11_ahead_6 : decode cX11_ahead 6 = .ok (.aload_n 0, 1) := by decide +kernel
theorem dX11_ahead_7 : decode cX11_ahead 7 = .ok (.invokevirtual 282, 3) := by decide +kernel
theorem dX11_ahead_10 : decode cX11_ahead 10 = .ok (.aload_n 0, 1) := by decide +kernel
theorem dX11_ahead_11 : decode cX11_ahead 11 = .ok (.iload_n 1, 1) := by decide +kernel
theorem dX11_ahead_12 : decode cX11_ahead 12 = .ok (.iconst (-1), 1) := by decide +kernel
theorem dX11_ahead_13 : decode cX11_ahead 13 = .ok (.invokevirtual 285, 3) := by decide +kernel
theorem dX11_ahead_16 : decode cX11_ahead 16 = .ok (.istore_n 2, 1) := by decide +kernel
theorem dX11_ahead_17 : decode cX11_ahead 17 = .ok (.aload_n 0, 1) := by decide +kernel
theorem dX11_ahead_18 : decode cX11_ahead 18 = .ok (.invokevirtual 288, 3) := by decide +kernel
theorem dX11_ahead_21 : decode cX11_ahead 21 = .ok (.iload_n 2, 1) := by decide +kernel
theorem dX11_ahead_22 : decode cX11_ahead 22 = .ok (.ireturn, 1) := by decide +kernel
theorem dX11_doesWait_0 : decode cX11_doesWait 0 = .ok (.aload_n 0, 1) := by decide +kernel
theorem dX11_doesWait_1 : decode cX11_doesWait 1 = .ok (.iload_n 1, 1) := by decide +kernel
theorem dX11_doesWait_2 : decode cX11_doesWait 2 = .ok (.invokevirtual 161, 3) := by decide +kernel
theorem dX11_doesWait_5 : decode cX11_doesWait 5 = .ok (.ifCond .eq 17, 3) := by decide +kernel
theorem dX11_doesWait_8 : decode cX11_doesWait 8 = .ok (.aload_n 0, 1) := by decide +kernel
theorem dX11_doesWait_9 : decode cX11_doesWait 9 = .ok (.iload_n 1, 1) := by decide +kernel
theorem dX11_doesWait_10 : decode cX11_doesWait 10 = .ok (.bipush 6, 2) := by decide +kernel
theorem dX11_doesWait_12 : decode cX11_doesWait 12 = .ok (.invokevirtual 94, 3) := by decide +kernel
theorem dX11_doesWait_15 : decode cX11_doesWait 15 = .ok (.ifCond .ne 7, 3) := by decide +kernel
theorem dX11_doesWait_18 : decode cX11_doesWait 18 = .ok (.iconst 1, 1) := by decide +kernel
theorem dX11_doesWait_19 : decode cX11_doesWait 19 = .ok (.goto 4, 3) := by decide +kernel
theorem dX11_doesWait_22 : decode cX11_doesWait 22 = .ok (.iconst 0, 1) := by decide +kernel
theorem dX11_doesWait_23 : decode cX11_doesWait 23 = .ok (.ireturn, 1) := by decide +kernel
theorem dX11_turnOf_0 : decode cX11_turnOf 0 = .ok (.aload_n 0, 1) := by decide +kernel
theorem dX11_turnOf_1 : decode cX11_turnOf 1 = .ok (.iload_n 1, 1) := by decide +kernel
theorem dX11_turnOf_2 : decode cX11_turnOf 2 = .ok (.invokevirtual 291, 3) := by decide +kernel
theorem dX11_turnOf_5 : decode cX11_turnOf 5 = .ok (.ifCond .ne 5, 3) := by decide +kernel
theorem dX11_turnOf_8 : decode cX11_turnOf 8 = .ok (.iconst (-1), 1) := by decide +kernel
theorem dX11_turnOf_9 : decode cX11_turnOf 9 = .ok (.ireturn, 1) := by decide +kernel
theorem dX11_turnOf_10 : decode cX11_turnOf 10 = .ok (.aload_n 0, 1) := by decide +kernel
theorem dX11_turnOf_11 : decode cX11_turnOf 11 = .ok (.invokevirtual 282, 3) := by decide +kernel
theorem dX11_turnOf_14 : decode cX11_turnOf 14 = .ok (.aload_n 0, 1) := by decide +kernel
theorem dX11_turnOf_15 : decode cX11_turnOf 15 = .ok (.iconst (-1), 1) := by decide +kernel
theorem dX11_turnOf_16 : decode cX11_turnOf 16 = .ok (.iload_n 1, 1) := by decide +kernel
theorem dX11_turnOf_17 : decode cX11_turnOf 17 = .ok (.invokevirtual 285, 3) := by decide +kernel
theorem dX11_turnOf_20 : decode cX11_turnOf 20 = .ok (.istore_n 2, 1) := by decide +kernel
theorem dX11_turnOf_21 : decode cX11_turnOf 21 = .ok (.aload_n 0, 1) := by decide +kernel
theorem dX11_turnOf_22 : decode cX11_turnOf 22 = .ok (.invokevirtual 288, 3) := by decide +kernel
theorem dX11_turnOf_25 : decode cX11_turnOf 25 = .ok (.iload_n 2, 1) := by decide +kernel
theorem dX11_turnOf_26 : decode cX11_turnOf 26 = .ok (.ireturn, 1) := by decide +kernel
theorem dX11_bestLane_0 : decode cX11_bestLane 0 = .ok (.aload_n 0, 1) := by decide +kernel
theorem dX11_bestLane_1 : decode cX11_bestLane 1 = .ok (.iload_n 1, 1) := by decide +kernel
theorem dX11_bestLane_2 : decode cX11_bestLane 2 = .ok (.invokevirtual 291, 3) := by decide +kernel
theorem dX11_bestLane_5 : decode cX11_bestLane 5 = .ok (.ifCond .eq 12, 3) := by decide +kernel
theorem dX11_bestLane_8 : decode cX11_bestLane 8 = .ok (.iload_n 2, 1) := by decide +kernel
theorem dX11_bestLane_9 : decode cX11_bestLane 9 = .ok (.iconst 0, 1) := by decide +kernel
theorem dX11_bestLane_10 : decode cX11_bestLane 10 = .ok (.iconst 1, 1) := by decide +kernel
theorem dX11_bestLane_11 : decode cX11_bestLane 11 = .ok (.invokestatic 90, 3) := by decide +kernel
theorem dX11_bestLane_14 : decode cX11_bestLane 14 = .ok (.ifCond .ne 5, 3) := by decide +kernel
theorem dX11_bestLane_17 : decode cX11_bestLane 17 = .ok (.iconst (-1), 1) := by decide +kernel
theorem dX11_bestLane_18 : decode cX11_bestLane 18 = .ok (.ireturn, 1) := by decide +kernel
theorem dX11_bestLane_19 : decode cX11_bestLane 19 = .ok (.iconst (-1), 1) := by decide +kernel
theorem dX11_bestLane_20 : decode cX11_bestLane 20 = .ok (.istore_n 3, 1) := by decide +kernel
theorem dX11_bestLane_21 : decode cX11_bestLane 21 = .ok (.ldc_w 294, 3) := by decide +kernel
theorem dX11_bestLane_24 : decode cX11_bestLane 24 = .ok (.istore 4, 2) := by decide +kernel
theorem dX11_bestLane_26 : decode cX11_bestLane 26 = .ok (.iconst 0, 1) := by decide +kernel
theorem dX11_bestLane_27 : decode cX11_bestLane 27 = .ok (.istore 5, 2) := by decide +kernel
theorem dX11_bestLane_29 : decode cX11_bestLane 29 = .ok (.iload 5, 2) := by decide +kernel
theorem dX11_bestLane_31 : decode cX11_bestLane 31 = .ok (.iconst 5, 1) := by decide +kernel
theorem dX11_bestLane_32 : decode cX11_bestLane 32 = .ok (.if_icmp .ge 110, 3) := by decide +kernel
theorem dX11_bestLane_35 : decode cX11_bestLane 35 = .ok (.aload_n 0, 1) := by decide +kernel
theorem dX11_bestLane_36 : decode cX11_bestLane 36 = .ok (.iload_n 1, 1) := by decide +kernel
theorem dX11_bestLane_37 : decode cX11_bestLane 37 = .ok (.iconst 0, 1) := by decide +kernel
theorem dX11_bestLane_38 : decode cX11_bestLane 38 = .ok (.invokevirtual 94, 3) := by decide +kernel
theorem dX11_bestLane_41 : decode cX11_bestLane 41 = .ok (.iload 5, 2) := by decide +kernel
theorem dX11_bestLane_43 : decode cX11_bestLane 43 = .ok (.if_icmp .ne 7, 3) := by decide +kernel
theorem dX11_bestLane_46 : decode cX11_bestLane 46 = .ok (.iconst 1, 1) := by decide +kernel
theorem dX11_bestLane_47 : decode cX11_bestLane 47 = .ok (.goto 4, 3) := by decide +kernel
theorem dX11_bestLane_50 : decode cX11_bestLane 50 = .ok (.iconst 0, 1) := by decide +kernel
theorem dX11_bestLane_51 : decode cX11_bestLane 51 = .ok (.istore 6, 2) := by decide +kernel
theorem dX11_bestLane_53 : decode cX11_bestLane 53 = .ok (.iload 6, 2) := by decide +kernel
theorem dX11_bestLane_55 : decode cX11_bestLane 55 = .ok (.ifCond .ne 30, 3) := by decide +kernel
theorem dX11_bestLane_58 : decode cX11_bestLane 58 = .ok (.aload_n 0, 1) := by decide +kernel
theorem dX11_bestLane_59 : decode cX11_bestLane 59 = .ok (.getfield 7, 3) := by decide +kernel
theorem dX11_bestLane_62 : decode cX11_bestLane 62 = .ok (.iload 5, 2) := by decide +kernel
theorem dX11_bestLane_64 : decode cX11_bestLane 64 = .ok (.invokestatic 80, 3) := by decide +kernel
theorem dX11_bestLane_67 : decode cX11_bestLane 67 = .ok (.iconst 3, 1) := by decide +kernel
theorem dX11_bestLane_68 : decode cX11_bestLane 68 = .ok (.iadd, 1) := by decide +kernel
theorem dX11_bestLane_69 : decode cX11_bestLane 69 = .ok (.iaload, 1) := by decide +kernel
theorem dX11_bestLane_70 : decode cX11_bestLane 70 = .ok (.ifCond .ne 66, 3) := by decide +kernel
theorem dX11_bestLane_73 : decode cX11_bestLane 73 = .ok (.aload_n 0, 1) := by decide +kernel
theorem dX11_bestLane_74 : decode cX11_bestLane 74 = .ok (.iload 5, 2) := by decide +kernel
theorem dX11_bestLane_76 : decode cX11_bestLane 76 = .ok (.invokevirtual 164, 3) := by decide +kernel
theorem dX11_bestLane_79 : decode cX11_bestLane 79 = .ok (.ifCond .ne 6, 3) := by decide +kernel
theorem dX11_bestLane_82 : decode cX11_bestLane 82 = .ok (.goto 54, 3) := by decide +kernel
theorem dX11_bestLane_85 : decode cX11_bestLane 85 = .ok (.aload_n 0, 1) := by decide +kernel
theorem dX11_bestLane_86 : decode cX11_bestLane 86 = .ok (.invokevirtual 282, 3) := by decide +kernel
theorem dX11_bestLane_89 : decode cX11_bestLane 89 = .ok (.iload 6, 2) := by decide +kernel
theorem dX11_bestLane_91 : decode cX11_bestLane 91 = .ok (.ifCond .ne 10, 3) := by decide +kernel
theorem dX11_bestLane_94 : decode cX11_bestLane 94 = .ok (.aload_n 0, 1) := by decide +kernel
theorem dX11_bestLane_95 : decode cX11_bestLane 95 = .ok (.iload_n 1, 1) := by decide +kernel
theorem dX11_bestLane_96 : decode cX11_bestLane 96 = .ok (.iload 5, 2) := by decide +kernel
theorem dX11_bestLane_98 : decode cX11_bestLane 98 = .ok (.invokevirtual 233, 3) := by decide +kernel
theorem dX11_bestLane_101 : decode cX11_bestLane 101 = .ok (.aload_n 0, 1) := by decide +kernel
theorem dX11_bestLane_102 : decode cX11_bestLane 102 = .ok (.iconst (-1), 1) := by decide +kernel
theorem dX11_bestLane_103 : decode cX11_bestLane 103 = .ok (.iload_n 1, 1) := by decide +kernel
theorem dX11_bestLane_104 : decode cX11_bestLane 104 = .ok (.invokevirtual 285, 3) := by decide +kernel
theorem dX11_bestLane_107 : decode cX11_bestLane 107 = .ok (.istore 7, 2) := by decide +kernel
theorem dX11_bestLane_109 : decode cX11_bestLane 109 = .ok (.aload_n 0, 1) := by decide +kernel
theorem dX11_bestLane_110 : decode cX11_bestLane 110 = .ok (.invokevirtual 288, 3) := by decide +kernel
theorem dX11_bestLane_113 : decode cX11_bestLane 113 = .ok (.iload 7, 2) := by decide +kernel
theorem dX11_bestLane_115 : decode cX11_bestLane 115 = .ok (.iload 4, 2) := by decide +kernel
theorem dX11_bestLane_117 : decode cX11_bestLane 117 = .ok (.if_icmp .ge 8, 3) := by decide +kernel
theorem dX11_bestLane_120 : decode cX11_bestLane 120 = .ok (.iload 5, 2) := by decide +kernel
theorem dX11_bestLane_122 : decode cX11_bestLane 122 = .ok (.goto 4, 3) := by decide +kernel
theorem dX11_bestLane_125 : decode cX11_bestLane 125 = .ok (.iload_n 3, 1) := by decide +kernel
theorem dX11_bestLane_126 : decode cX11_bestLane 126 = .ok (.istore_n 3, 1) := by decide +kernel
theorem dX11_bestLane_127 : decode cX11_bestLane 127 = .ok (.iload 4, 2) := by decide +kernel
theorem dX11_bestLane_129 : decode cX11_bestLane 129 = .ok (.iload 7, 2) := by decide +kernel
theorem dX11_bestLane_131 : decode cX11_bestLane 131 = .ok (.invokestatic 267, 3) := by decide +kernel
theorem dX11_bestLane_134 : decode cX11_bestLane 134 = .ok (.istore 4, 2) := by decide +kernel
theorem dX11_bestLane_136 : decode cX11_bestLane 136 = .ok (.iinc 5 1, 3) := by decide +kernel
theorem dX11_bestLane_139 : decode cX11_bestLane 139 = .ok (.goto (-110), 3) := by decide +kernel
theorem dX11_bestLane_142 : decode cX11_bestLane 142 = .ok (.iload_n 2, 1) := by decide +kernel
theorem dX11_bestLane_143 : decode cX11_bestLane 143 = .ok (.ifCond .ne 7, 3) := by decide +kernel
theorem dX11_bestLane_146 : decode cX11_bestLane 146 = .ok (.iload_n 3, 1) := by decide +kernel
theorem dX11_bestLane_147 : decode cX11_bestLane 147 = .ok (.goto 5, 3) := by decide +kernel
theorem dX11_bestLane_150 : decode cX11_bestLane 150 = .ok (.iload 4, 2) := by decide +kernel
theorem dX11_bestLane_152 : decode cX11_bestLane 152 = .ok (.ireturn, 1) := by decide +kernel
theorem dX11_chain_0 : decode cX11_chain 0 = .ok (.aload_n 0, 1) := by decide +kernel
theorem dX11_chain_1 : decode cX11_chain 1 = .ok (.iload_n 1, 1) := by decide +kernel
theorem dX11_chain_2 : decode cX11_chain 2 = .ok (.invokevirtual 161, 3) := by decide +kernel
theorem dX11_chain_5 : decode cX11_chain 5 = .ok (.ifCond .eq 12, 3) := by decide +kernel
theorem dX11_chain_8 : decode cX11_chain 8 = .ok (.iload_n 2, 1) := by decide +kernel
theorem dX11_chain_9 : decode cX11_chain 9 = .ok (.iconst 0, 1) := by decide +kernel
theorem dX11_chain_10 : decode cX11_chain 10 = .ok (.iconst 1, 1) := by decide +kernel
theorem dX11_chain_11 : decode cX11_chain 11 = .ok (.invokestatic 90, 3) := by decide +kernel
theorem dX11_chain_14 : decode cX11_chain 14 = .ok (.ifCond .ne 5, 3) := by decide +kernel
theorem dX11_chain_17 : decode cX11_chain 17 = .ok (.iconst (-1), 1) := by decide +kernel
theorem dX11_chain_18 : decode cX11_chain 18 = .ok (.ireturn, 1) := by decide +kernel
theorem dX11_chain_19 : decode cX11_chain 19 = .ok (.aload_n 0, 1) := by decide +kernel
theorem dX11_chain_20 : decode cX11_chain 20 = .ok (.iload_n 1, 1) := by decide +kernel
theorem dX11_chain_21 : decode cX11_chain 21 = .ok (.iconst 2, 1) := by decide +kernel
theorem dX11_chain_22 : decode cX11_chain 22 = .ok (.invokevirtual 94, 3) := by decide +kernel
theorem dX11_chain_25 : decode cX11_chain 25 = .ok (.istore_n 3, 1) := by decide +kernel
theorem dX11_chain_26 : decode cX11_chain 26 = .ok (.iconst 1, 1) := by decide +kernel
theorem dX11_chain_27 : decode cX11_chain 27 = .ok (.istore 4, 2) := by decide +kernel
theorem dX11_chain_29 : decode cX11_chain 29 = .ok (.aload_n 0, 1) := by decide +kernel
theorem dX11_chain_30 : decode cX11_chain 30 = .ok (.iload_n 1, 1) := by decide +kernel
theorem dX11_chain_31 : decode cX11_chain 31 = .ok (.iconst 4, 1) := by decide +kernel
theorem dX11_chain_32 : decode cX11_chain 32 = .ok (.invokevirtual 94, 3) := by decide +kernel
theorem dX11_chain_35 : decode cX11_chain 35 = .ok (.istore 5, 2) := by decide +kernel
theorem dX11_chain_37 : decode cX11_chain 37 = .ok (.iload 5, 2) := by decide +kernel
theorem dX11_chain_39 : decode cX11_chain 39 = .ok (.iconst (-1), 1) := by decide +kernel
theorem dX11_chain_40 : decode cX11_chain 40 = .ok (.if_icmp .eq 40, 3) := by decide +kernel
theorem dX11_chain_43 : decode cX11_chain 43 = .ok (.aload_n 0, 1) := by decide +kernel
theorem dX11_chain_44 : decode cX11_chain 44 = .ok (.iload 5, 2) := by decide +kernel
theorem dX11_chain_46 : decode cX11_chain 46 = .ok (.bipush 6, 2) := by decide +kernel
theorem dX11_chain_48 : decode cX11_chain 48 = .ok (.invokevirtual 94, 3) := by decide +kernel
theorem dX11_chain_51 : decode cX11_chain 51 = .ok (.iconst 4, 1) := by decide +kernel
theorem dX11_chain_52 : decode cX11_chain 52 = .ok (.if_icmp .eq 28, 3) := by decide +kernel
theorem dX11_chain_55 : decode cX11_chain 55 = .ok (.iload_n 3, 1) := by decide +kernel
theorem dX11_chain_56 : decode cX11_chain 56 = .ok (.aload_n 0, 1) := by decide +kernel
theorem dX11_chain_57 : decode cX11_chain 57 = .ok (.iload 5, 2) := by decide +kernel
theorem dX11_chain_59 : decode cX11_chain 59 = .ok (.iconst 2, 1) := by decide +kernel
theorem dX11_chain_60 : decode cX11_chain 60 = .ok (.invokevirtual 94, 3) := by decide +kernel
theorem dX11_chain_63 : decode cX11_chain 63 = .ok (.iadd, 1) := by decide +kernel
theorem dX11_chain_64 : decode cX11_chain 64 = .ok (.istore_n 3, 1) := by decide +kernel
theorem dX11_chain_65 : decode cX11_chain 65 = .ok (.iinc 4 1, 3) := by decide +kernel
theorem dX11_chain_68 : decode cX11_chain 68 = .ok (.aload_n 0, 1) := by decide +kernel
theorem dX11_chain_69 : decode cX11_chain 69 = .ok (.iload 5, 2) := by decide +kernel
theorem dX11_chain_71 : decode cX11_chain 71 = .ok (.iconst 4, 1) := by decide +kernel
theorem dX11_chain_72 : decode cX11_chain 72 = .ok (.invokevirtual 94, 3) := by decide +kernel
theorem dX11_chain_75 : decode cX11_chain 75 = .ok (.istore 5, 2) := by decide +kernel
theorem dX11_chain_77 : decode cX11_chain 77 = .ok (.goto (-40), 3) := by decide +kernel
theorem dX11_chain_80 : decode cX11_chain 80 = .ok (.iload_n 2, 1) := by decide +kernel
theorem dX11_chain_81 : decode cX11_chain 81 = .ok (.ifCond .ne 7, 3) := by decide +kernel
theorem dX11_chain_84 : decode cX11_chain 84 = .ok (.iload_n 3, 1) := by decide +kernel
theorem dX11_chain_85 : decode cX11_chain 85 = .ok (.goto 5, 3) := by decide +kernel
theorem dX11_chain_88 : decode cX11_chain 88 = .ok (.iload 4, 2) := by decide +kernel
theorem dX11_chain_90 : decode cX11_chain 90 = .ok (.ireturn, 1) := by decide +kernel
theorem dX11_lapse_0 : decode cX11_lapse 0 = .ok (.iload_n 1, 1) := by decide +kernel
theorem dX11_lapse_1 : decode cX11_lapse 1 = .ok (.iconst 1, 1) := by decide +kernel
theorem dX11_lapse_2 : decode cX11_lapse 2 = .ok (.bipush 99, 2) := by decide +kernel
theorem dX11_lapse_4 : decode cX11_lapse 4 = .ok (.invokestatic 90, 3) := by decide +kernel
theorem dX11_lapse_7 : decode cX11_lapse 7 = .ok (.ifCond .eq 12, 3) := by decide +kernel
theorem dX11_lapse_10 : decode cX11_lapse 10 = .ok (.iload_n 2, 1) := by decide +kernel
theorem dX11_lapse_11 : decode cX11_lapse 11 = .ok (.iconst 0, 1) := by decide +kernel
theorem dX11_lapse_12 : decode cX11_lapse 12 = .ok (.iconst 2, 1) := by decide +kernel
theorem dX11_lapse_13 : decode cX11_lapse 13 = .ok (.invokestatic 90, 3) := by decide +kernel
theorem dX11_lapse_16 : decode cX11_lapse 16 = .ok (.ifCond .ne 5, 3) := by decide +kernel
theorem dX11_lapse_19 : decode cX11_lapse 19 = .ok (.iconst (-1), 1) := by decide +kernel
theorem dX11_lapse_20 : decode cX11_lapse 20 = .ok (.ireturn, 1) := by decide +kernel
theorem dX11_lapse_21 : decode cX11_lapse 21 = .ok (.aload_n 0, 1) := by decide +kernel
theorem dX11_lapse_22 : decode cX11_lapse 22 = .ok (.invokevirtual 282, 3) := by decide +kernel
theorem dX11_lapse_25 : decode cX11_lapse 25 = .ok (.iconst 0, 1) := by decide +kernel
theorem dX11_lapse_26 : decode cX11_lapse 26 = .ok (.istore_n 3, 1) := by decide +kernel
theorem dX11_lapse_27 : decode cX11_lapse 27 = .ok (.iload_n 3, 1) := by decide +kernel
theorem dX11_lapse_28 : decode cX11_lapse 28 = .ok (.iload_n 1, 1) := by decide +kernel
theorem dX11_lapse_29 : decode cX11_lapse 29 = .ok (.if_icmp .ge 13, 3) := by decide +kernel
theorem dX11_lapse_32 : decode cX11_lapse 32 = .ok (.aload_n 0, 1) := by decide +kernel
theorem dX11_lapse_33 : decode cX11_lapse 33 = .ok (.invokevirtual 227, 3) := by decide +kernel
theorem dX11_lapse_36 : decode cX11_lapse 36 = .ok (.iinc 3 1, 3) := by decide +kernel
theorem dX11_lapse_39 : decode cX11_lapse 39 = .ok (.goto (-12), 3) := by decide +kernel
theorem dX11_lapse_42 : decode cX11_lapse 42 = .ok (.iload_n 2, 1) := by decide +kernel
theorem dX11_lapse_43 : decode cX11_lapse 43 = .ok (.ifCond .ne 10, 3) := by decide +kernel
theorem dX11_lapse_46 : decode cX11_lapse 46 = .ok (.aload_n 0, 1) := by decide +kernel
theorem dX11_lapse_47 : decode cX11_lapse 47 = .ok (.getfield 39, 3) := by decide +kernel
theorem dX11_lapse_50 : decode cX11_lapse 50 = .ok (.goto 19, 3) := by decide +kernel
theorem dX11_lapse_53 : decode cX11_lapse 53 = .ok (.iload_n 2, 1) := by decide +kernel
theorem dX11_lapse_54 : decode cX11_lapse 54 = .ok (.iconst 1, 1) := by decide +kernel
theorem dX11_lapse_55 : decode cX11_lapse 55 = .ok (.if_icmp .ne 10, 3) := by decide +kernel
theorem dX11_lapse_58 : decode cX11_lapse 58 = .ok (.aload_n 0, 1) := by decide +kernel
theorem dX11_lapse_59 : decode cX11_lapse 59 = .ok (.getfield 42, 3) := by decide +kernel
theorem dX11_lapse_62 : decode cX11_lapse 62 = .ok (.goto 7, 3) := by decide +kernel
theorem dX11_lapse_65 : decode cX11_lapse 65 = .ok (.aload_n 0, 1) := by decide +kernel
theorem dX11_lapse_66 : decode cX11_lapse 66 = .ok (.getfield 45, 3) := by decide +kernel
theorem dX11_lapse_69 : decode cX11_lapse 69 = .ok (.istore_n 3, 1) := by decide +kernel
theorem dX11_lapse_70 : decode cX11_lapse 70 = .ok (.aload_n 0, 1) := by decide +kernel
theorem dX11_lapse_71 : decode cX11_lapse 71 = .ok (.invokevirtual 288, 3) := by decide +kernel
theorem dX11_lapse_74 : decode cX11_lapse 74 = .ok (.iload_n 3, 1) := by decide +kernel
theorem dX11_lapse_75 : decode cX11_lapse 75 = .ok (.ireturn, 1) := by decide +kernel
theorem dX11_safe_0 : decode cX11_safe 0 = .ok (.aload_n 0, 1) := by decide +kernel
theorem dX11_safe_1 : decode cX11_safe 1 = .ok (.iload_n 1, 1) := by decide +kernel
theorem dX11_safe_2 : decode cX11_safe 2 = .ok (.invokevirtual 291, 3) := by decide +kernel
theorem dX11_safe_5 : decode cX11_safe 5 = .ok (.ifCond .eq 30, 3) := by decide +kernel
theorem dX11_safe_8 : decode cX11_safe 8 = .ok (.aload_n 0, 1) := by decide +kernel
theorem dX11_safe_9 : decode cX11_safe 9 = .ok (.getfield 7, 3) := by decide +kernel
theorem dX11_safe_12 : decode cX11_safe 12 = .ok (.iconst 0, 1) := by decide +kernel
theorem dX11_safe_13 : decode cX11_safe 13 = .ok (.iaload, 1) := by decide +kernel
theorem dX11_safe_14 : decode cX11_safe 14 = .ok (.bipush 9, 2) := by decide +kernel
theorem dX11_safe_16 : decode cX11_safe 16 = .ok (.aload_n 0, 1) := by decide +kernel
theorem dX11_safe_17 : decode cX11_safe 17 = .ok (.getfield 7, 3) := by decide +kernel
theorem dX11_safe_20 : decode cX11_safe 20 = .ok (.iconst 4, 1) := by decide +kernel
theorem dX11_safe_21 : decode cX11_safe 21 = .ok (.iaload, 1) := by decide +kernel
theorem dX11_safe_22 : decode cX11_safe 22 = .ok (.imul, 1) := by decide +kernel
theorem dX11_safe_23 : decode cX11_safe 23 = .ok (.aload_n 0, 1) := by decide +kernel
theorem dX11_safe_24 : decode cX11_safe 24 = .ok (.iload_n 1, 1) := by decide +kernel
theorem dX11_safe_25 : decode cX11_safe 25 = .ok (.invokevirtual 102, 3) := by decide +kernel
theorem dX11_safe_28 : decode cX11_safe 28 = .ok (.isub, 1) := by decide +kernel
theorem dX11_safe_29 : decode cX11_safe 29 = .ok (.invokestatic 118, 3) := by decide +kernel
theorem dX11_safe_32 : decode cX11_safe 32 = .ok (.goto 4, 3) := by decide +kernel
theorem dX11_safe_35 : decode cX11_safe 35 = .ok (.iconst (-1), 1) := by decide +kernel
theorem dX11_safe_36 : decode cX11_safe 36 = .ok (.ireturn, 1) := by decide +kernel
theorem dX11_nextDone_0 : decode cX11_nextDone 0 = .ok (.iconst (-1), 1) := by decide +kernel
theorem dX11_nextDone_1 : decode cX11_nextDone 1 = .ok (.istore_n 2, 1) := by decide +kernel
theorem dX11_nextDone_2 : decode cX11_nextDone 2 = .ok (.iconst 0, 1) := by decide +kernel
theorem dX11_nextDone_3 : decode cX11_nextDone 3 = .ok (.istore_n 3, 1) := by decide +kernel
theorem dX11_nextDone_4 : decode cX11_nextDone 4 = .ok (.iload_n 3, 1) := by decide +kernel
theorem dX11_nextDone_5 : decode cX11_nextDone 5 = .ok (.iload_n 1, 1) := by decide +kernel
theorem dX11_nextDone_6 : decode cX11_nextDone 6 = .ok (.if_icmp .ge 56, 3) := by decide +kernel
theorem dX11_nextDone_9 : decode cX11_nextDone 9 = .ok (.aload_n 0, 1) := by decide +kernel
theorem dX11_nextDone_10 : decode cX11_nextDone 10 = .ok (.getfield 59, 3) := by decide +kernel
theorem dX11_nextDone_13 : decode cX11_nextDone 13 = .ok (.iload_n 3, 1) := by decide +kernel
theorem dX11_nextDone_14 : decode cX11_nextDone 14 = .ok (.iaload, 1) := by decide +kernel
theorem dX11_nextDone_15 : decode cX11_nextDone 15 = .ok (.iconst (-1), 1) := by decide +kernel
theorem dX11_nextDone_16 : decode cX11_nextDone 16 = .ok (.if_icmp .eq 40, 3) := by decide +kernel
theorem dX11_nextDone_19 : decode cX11_nextDone 19 = .ok (.aload_n 0, 1) := by decide +kernel
theorem dX11_nextDone_20 : decode cX11_nextDone 20 = .ok (.getfield 62, 3) := by decide +kernel
theorem dX11_nextDone_23 : decode cX11_nextDone 23 = .ok (.iload_n 3, 1) := by decide +kernel
theorem dX11_nextDone_24 : decode cX11_nextDone 24 = .ok (.iaload, 1) := by decide +kernel
theorem dX11_nextDone_25 : decode cX11_nextDone 25 = .ok (.aload_n 0, 1) := by decide +kernel
theorem dX11_nextDone_26 : decode cX11_nextDone 26 = .ok (.getfield 7, 3) := by decide +kernel
theorem dX11_nextDone_29 : decode cX11_nextDone 29 = .ok (.iconst 0, 1) := by decide +kernel
theorem dX11_nextDone_30 : decode cX11_nextDone 30 = .ok (.iaload, 1) := by decide +kernel
theorem dX11_nextDone_31 : decode cX11_nextDone 31 = .ok (.if_icmp .gt 25, 3) := by decide +kernel
theorem dX11_nextDone_34 : decode cX11_nextDone 34 = .ok (.iload_n 2, 1) := by decide +kernel
theorem dX11_nextDone_35 : decode cX11_nextDone 35 = .ok (.iconst (-1), 1) := by decide +kernel
theorem dX11_nextDone_36 : decode cX11_nextDone 36 = .ok (.if_icmp .eq 18, 3) := by decide +kernel
theorem dX11_nextDone_39 : decode cX11_nextDone 39 = .ok (.aload_n 0, 1) := by decide +kernel
theorem dX11_nextDone_40 : decode cX11_nextDone 40 = .ok (.getfield 59, 3) := by decide +kernel
theorem dX11_nextDone_43 : decode cX11_nextDone 43 = .ok (.iload_n 3, 1) := by decide +kernel
theorem dX11_nextDone_44 : decode cX11_nextDone 44 = .ok (.iaload, 1) := by decide +kernel
theorem dX11_nextDone_45 : decode cX11_nextDone 45 = .ok (.aload_n 0, 1) := by decide +kernel
theorem dX11_nextDone_46 : decode cX11_nextDone 46 = .ok (.getfield 59, 3) := by decide +kernel
theorem dX11_nextDone_49 : decode cX11_nextDone 49 = .ok (.iload_n 2, 1) := by decide +kernel
theorem dX11_nextDone_50 : decode cX11_nextDone 50 = .ok (.iaload, 1) := by decide +kernel
theorem dX11_nextDone_51 : decode cX11_nextDone 51 = .ok (.if_icmp .ge 5, 3) := by decide +kernel
theorem dX11_nextDone_54 : decode cX11_nextDone 54 = .ok (.iload_n 3, 1) := by decide +kernel
theorem dX11_nextDone_55 : decode cX11_nextDone 55 = .ok (.istore_n 2, 1) := by decide +kernel
theorem dX11_nextDone_56 : decode cX11_nextDone 56 = .ok (.iinc 3 1, 3) := by decide +kernel
theorem dX11_nextDone_59 : decode cX11_nextDone 59 = .ok (.goto (-55), 3) := by decide +kernel
theorem dX11_nextDone_62 : decode cX11_nextDone 62 = .ok (.iload_n 2, 1) := by decide +kernel
theorem dX11_nextDone_63 : decode cX11_nextDone 63 = .ok (.ireturn, 1) := by decide +kernel
theorem dX11_doneOnPaper_0 : decode cX11_doneOnPaper 0 = .ok (.iconst (-1), 1) := by decide +kernel
theorem dX11_doneOnPaper_1 : decode cX11_doneOnPaper 1 = .ok (.istore_n 2, 1) := by decide +kernel
theorem dX11_doneOnPaper_2 : decode cX11_doneOnPaper 2 = .ok (.aload_n 0, 1) := by decide +kernel
theorem dX11_doneOnPaper_3 : decode cX11_doneOnPaper 3 = .ok (.iload_n 1, 1) := by decide +kernel
theorem dX11_doneOnPaper_4 : decode cX11_doneOnPaper 4 = .ok (.invokevirtual 295, 3) := by decide +kernel
theorem dX11_doneOnPaper_7 : decode cX11_doneOnPaper 7 = .ok (.istore_n 3, 1) := by decide +kernel
theorem dX11_doneOnPaper_8 : decode cX11_doneOnPaper 8 = .ok (.iload_n 3, 1) := by decide +kernel
theorem dX11_doneOnPaper_9 : decode cX11_doneOnPaper 9 = .ok (.iconst (-1), 1) := by decide +kernel
theorem dX11_doneOnPaper_10 : decode cX11_doneOnPaper 10 = .ok (.if_icmp .eq 40, 3) := by decide +kernel
theorem dX11_doneOnPaper_13 : decode cX11_doneOnPaper 13 = .ok (.iload_n 2, 1) := by decide +kernel
theorem dX11_doneOnPaper_14 : decode cX11_doneOnPaper 14 = .ok (.aload_n 0, 1) := by decide +kernel
theorem dX11_doneOnPaper_15 : decode cX11_doneOnPaper 15 = .ok (.getfield 59, 3) := by decide +kernel
theorem dX11_doneOnPaper_18 : decode cX11_doneOnPaper 18 = .ok (.iload_n 3, 1) := by decide +kernel
theorem dX11_doneOnPaper_19 : decode cX11_doneOnPaper 19 = .ok (.iaload, 1) := by decide +kernel
theorem dX11_doneOnPaper_20 : decode cX11_doneOnPaper 20 = .ok (.invokestatic 118, 3) := by decide +kernel
theorem dX11_doneOnPaper_23 : decode cX11_doneOnPaper 23 = .ok (.istore_n 2, 1) := by decide +kernel
theorem dX11_doneOnPaper_24 : decode cX11_doneOnPaper 24 = .ok (.aload_n 0, 1) := by decide +kernel
theorem dX11_doneOnPaper_25 : decode cX11_doneOnPaper 25 = .ok (.aload_n 0, 1) := by decide +kernel
theorem dX11_doneOnPaper_26 : decode cX11_doneOnPaper 26 = .ok (.getfield 59, 3) := by decide +kernel
theorem dX11_doneOnPaper_29 : decode cX11_doneOnPaper 29 = .ok (.iload_n 3, 1) := by decide +kernel
theorem dX11_doneOnPaper_30 : decode cX11_doneOnPaper 30 = .ok (.iaload, 1) := by decide +kernel
theorem dX11_doneOnPaper_31 : decode cX11_doneOnPaper 31 = .ok (.invokevirtual 140, 3) := by decide +kernel
theorem dX11_doneOnPaper_34 : decode cX11_doneOnPaper 34 = .ok (.aload_n 0, 1) := by decide +kernel
theorem dX11_doneOnPaper_35 : decode cX11_doneOnPaper 35 = .ok (.getfield 59, 3) := by decide +kernel
theorem dX11_doneOnPaper_38 : decode cX11_doneOnPaper 38 = .ok (.iload_n 3, 1) := by decide +kernel
theorem dX11_doneOnPaper_39 : decode cX11_doneOnPaper 39 = .ok (.iconst (-1), 1) := by decide +kernel
theorem dX11_doneOnPaper_40 : decode cX11_doneOnPaper 40 = .ok (.iastore, 1) := by decide +kernel
theorem dX11_doneOnPaper_41 : decode cX11_doneOnPaper 41 = .ok (.aload_n 0, 1) := by decide +kernel
theorem dX11_doneOnPaper_42 : decode cX11_doneOnPaper 42 = .ok (.iload_n 1, 1) := by decide +kernel
theorem dX11_doneOnPaper_43 : decode cX11_doneOnPaper 43 = .ok (.invokevirtual 295, 3) := by decide +kernel
theorem dX11_doneOnPaper_46 : decode cX11_doneOnPaper 46 = .ok (.istore_n 3, 1) := by decide +kernel
theorem dX11_doneOnPaper_47 : decode cX11_doneOnPaper 47 = .ok (.goto (-39), 3) := by decide +kernel
theorem dX11_doneOnPaper_50 : decode cX11_doneOnPaper 50 = .ok (.aload_n 0, 1) := by decide +kernel
theorem dX11_doneOnPaper_51 : decode cX11_doneOnPaper 51 = .ok (.iload_n 2, 1) := by decide +kernel
theorem dX11_doneOnPaper_52 : decode cX11_doneOnPaper 52 = .ok (.iconst (-1), 1) := by decide +kernel
theorem dX11_doneOnPaper_53 : decode cX11_doneOnPaper 53 = .ok (.if_icmp .ne 10, 3) := by decide +kernel
theorem dX11_doneOnPaper_56 : decode cX11_doneOnPaper 56 = .ok (.aload_n 0, 1) := by decide +kernel
theorem dX11_doneOnPaper_57 : decode cX11_doneOnPaper 57 = .ok (.getfield 65, 3) := by decide +kernel
theorem dX11_doneOnPaper_60 : decode cX11_doneOnPaper 60 = .ok (.goto 4, 3) := by decide +kernel
theorem dX11_doneOnPaper_63 : decode cX11_doneOnPaper 63 = .ok (.iload_n 2, 1) := by decide +kernel
theorem dX11_doneOnPaper_64 : decode cX11_doneOnPaper 64 = .ok (.putfield 65, 3) := by decide +kernel
theorem dX11_doneOnPaper_67 : decode cX11_doneOnPaper 67 = .ok (.return_, 1) := by decide +kernel
theorem dX11_takesOnPaper_0 : decode cX11_takesOnPaper 0 = .ok (.iconst 0, 1) := by decide +kernel
theorem dX11_takesOnPaper_1 : decode cX11_takesOnPaper 1 = .ok (.istore_n 2, 1) := by decide +kernel
theorem dX11_takesOnPaper_2 : decode cX11_takesOnPaper 2 = .ok (.iload_n 2, 1) := by decide +kernel
theorem dX11_takesOnPaper_3 : decode cX11_takesOnPaper 3 = .ok (.iload_n 1, 1) := by decide +kernel
theorem dX11_takesOnPaper_4 : decode cX11_takesOnPaper 4 = .ok (.if_icmp .ge 95, 3) := by decide +kernel
theorem dX11_takesOnPaper_7 : decode cX11_takesOnPaper 7 = .ok (.aload_n 0, 1) := by decide +kernel
theorem dX11_takesOnPaper_8 : decode cX11_takesOnPaper 8 = .ok (.getfield 59, 3) := by decide +kernel
theorem dX11_takesOnPaper_11 : decode cX11_takesOnPaper 11 = .ok (.iload_n 2, 1) := by decide +kernel
theorem dX11_takesOnPaper_12 : decode cX11_takesOnPaper 12 = .ok (.iaload, 1) := by decide +kernel
theorem dX11_takesOnPaper_13 : decode cX11_takesOnPaper 13 = .ok (.iconst (-1), 1) := by decide +kernel
theorem dX11_takesOnPaper_14 : decode cX11_takesOnPaper 14 = .ok (.if_icmp .ne 11, 3) := by decide +kernel
theorem dX11_takesOnPaper_17 : decode cX11_takesOnPaper 17 = .ok (.aload_n 0, 1) := by decide +kernel
theorem dX11_takesOnPaper_18 : decode cX11_takesOnPaper 18 = .ok (.iconst 1, 1) := by decide +kernel
theorem dX11_takesOnPaper_19 : decode cX11_takesOnPaper 19 = .ok (.invokevirtual 202, 3) := by decide +kernel
theorem dX11_takesOnPaper_22 : decode cX11_takesOnPaper 22 = .ok (.goto 4, 3) := by decide +kernel
theorem dX11_takesOnPaper_25 : decode cX11_takesOnPaper 25 = .ok (.iconst (-1), 1) := by decide +kernel
theorem dX11_takesOnPaper_26 : decode cX11_takesOnPaper 26 = .ok (.istore_n 3, 1) := by decide +kernel
theorem dX11_takesOnPaper_27 : decode cX11_takesOnPaper 27 = .ok (.iload_n 3, 1) := by decide +kernel
theorem dX11_takesOnPaper_28 : decode cX11_takesOnPaper 28 = .ok (.iconst (-1), 1) := by decide +kernel
theorem dX11_takesOnPaper_29 : decode cX11_takesOnPaper 29 = .ok (.if_icmp .ne 6, 3) := by decide +kernel
theorem dX11_takesOnPaper_32 : decode cX11_takesOnPaper 32 = .ok (.goto 61, 3) := by decide +kernel
theorem dX11_takesOnPaper_35 : decode cX11_takesOnPaper 35 = .ok (.aload_n 0, 1) := by decide +kernel
theorem dX11_takesOnPaper_36 : decode cX11_takesOnPaper 36 = .ok (.getfield 59, 3) := by decide +kernel
theorem dX11_takesOnPaper_39 : decode cX11_takesOnPaper 39 = .ok (.iload_n 2, 1) := by decide +kernel
theorem dX11_takesOnPaper_40 : decode cX11_takesOnPaper 40 = .ok (.aload_n 0, 1) := by decide +kernel
theorem dX11_takesOnPaper_41 : decode cX11_takesOnPaper 41 = .ok (.iload_n 3, 1) := by decide +kernel
theorem dX11_takesOnPaper_42 : decode cX11_takesOnPaper 42 = .ok (.invokevirtual 206, 3) := by decide +kernel
theorem dX11_takesOnPaper_45 : decode cX11_takesOnPaper 45 = .ok (.iastore, 1) := by decide +kernel
theorem dX11_takesOnPaper_46 : decode cX11_takesOnPaper 46 = .ok (.aload_n 0, 1) := by decide +kernel
theorem dX11_takesOnPaper_47 : decode cX11_takesOnPaper 47 = .ok (.getfield 62, 3) := by decide +kernel
theorem dX11_takesOnPaper_50 : decode cX11_takesOnPaper 50 = .ok (.iload_n 2, 1) := by decide +kernel
theorem dX11_takesOnPaper_51 : decode cX11_takesOnPaper 51 = .ok (.aload_n 0, 1) := by decide +kernel
theorem dX11_takesOnPaper_52 : decode cX11_takesOnPaper 52 = .ok (.getfield 7, 3) := by decide +kernel
theorem dX11_takesOnPaper_55 : decode cX11_takesOnPaper 55 = .ok (.iconst 0, 1) := by decide +kernel
theorem dX11_takesOnPaper_56 : decode cX11_takesOnPaper 56 = .ok (.iaload, 1) := by decide +kernel
theorem dX11_takesOnPaper_57 : decode cX11_takesOnPaper 57 = .ok (.aload_n 0, 1) := by decide +kernel
theorem dX11_takesOnPaper_58 : decode cX11_takesOnPaper 58 = .ok (.aload_n 0, 1) := by decide +kernel
theorem dX11_takesOnPaper_59 : decode cX11_takesOnPaper 59 = .ok (.getfield 59, 3) := by decide +kernel
theorem dX11_takesOnPaper_62 : decode cX11_takesOnPaper 62 = .ok (.iload_n 2, 1) := by decide +kernel
theorem dX11_takesOnPaper_63 : decode cX11_takesOnPaper 63 = .ok (.iaload, 1) := by decide +kernel
theorem dX11_takesOnPaper_64 : decode cX11_takesOnPaper 64 = .ok (.iconst 2, 1) := by decide +kernel
theorem dX11_takesOnPaper_65 : decode cX11_takesOnPaper 65 = .ok (.invokevirtual 94, 3) := by decide +kernel
theorem dX11_takesOnPaper_68 : decode cX11_takesOnPaper 68 = .ok (.iadd, 1) := by decide +kernel
theorem dX11_takesOnPaper_69 : decode cX11_takesOnPaper 69 = .ok (.iastore, 1) := by decide +kernel
theorem dX11_takesOnPaper_70 : decode cX11_takesOnPaper 70 = .ok (.aload_n 0, 1) := by decide +kernel
theorem dX11_takesOnPaper_71 : decode cX11_takesOnPaper 71 = .ok (.aload_n 0, 1) := by decide +kernel
theorem dX11_takesOnPaper_72 : decode cX11_takesOnPaper 72 = .ok (.getfield 59, 3) := by decide +kernel
theorem dX11_takesOnPaper_75 : decode cX11_takesOnPaper 75 = .ok (.iload_n 2, 1) := by decide +kernel
theorem dX11_takesOnPaper_76 : decode cX11_takesOnPaper 76 = .ok (.iaload, 1) := by decide +kernel
theorem dX11_takesOnPaper_77 : decode cX11_takesOnPaper 77 = .ok (.invokevirtual 180, 3) := by decide +kernel
theorem dX11_takesOnPaper_80 : decode cX11_takesOnPaper 80 = .ok (.aload_n 0, 1) := by decide +kernel
theorem dX11_takesOnPaper_81 : decode cX11_takesOnPaper 81 = .ok (.aload_n 0, 1) := by decide +kernel
theorem dX11_takesOnPaper_82 : decode cX11_takesOnPaper 82 = .ok (.getfield 59, 3) := by decide +kernel
theorem dX11_takesOnPaper_85 : decode cX11_takesOnPaper 85 = .ok (.iload_n 2, 1) := by decide +kernel
theorem dX11_takesOnPaper_86 : decode cX11_takesOnPaper 86 = .ok (.iaload, 1) := by decide +kernel
theorem dX11_takesOnPaper_87 : decode cX11_takesOnPaper 87 = .ok (.bipush 6, 2) := by decide +kernel
theorem dX11_takesOnPaper_89 : decode cX11_takesOnPaper 89 = .ok (.iconst 3, 1) := by decide +kernel
theorem dX11_takesOnPaper_90 : decode cX11_takesOnPaper 90 = .ok (.invokevirtual 121, 3) := by decide +kernel
theorem dX11_takesOnPaper_93 : decode cX11_takesOnPaper 93 = .ok (.iinc 2 1, 3) := by decide +kernel
theorem dX11_takesOnPaper_96 : decode cX11_takesOnPaper 96 = .ok (.goto (-94), 3) := by decide +kernel
theorem dX11_takesOnPaper_99 : decode cX11_takesOnPaper 99 = .ok (.return_, 1) := by decide +kernel
theorem dX11_nextEvent_0 : decode cX11_nextEvent 0 = .ok (.aload_n 0, 1) := by decide +kernel
theorem dX11_nextEvent_1 : decode cX11_nextEvent 1 = .ok (.invokevirtual 183, 3) := by decide +kernel
theorem dX11_nextEvent_4 : decode cX11_nextEvent 4 = .ok (.istore_n 2, 1) := by decide +kernel
theorem dX11_nextEvent_5 : decode cX11_nextEvent 5 = .ok (.iload_n 2, 1) := by decide +kernel
theorem dX11_nextEvent_6 : decode cX11_nextEvent 6 = .ok (.iconst (-1), 1) := by decide +kernel
theorem dX11_nextEvent_7 : decode cX11_nextEvent 7 = .ok (.if_icmp .ne 9, 3) := by decide +kernel
theorem dX11_nextEvent_10 : decode cX11_nextEvent 10 = .ok (.ldc_w 294, 3) := by decide +kernel
theorem dX11_nextEvent_13 : decode cX11_nextEvent 13 = .ok (.goto 10, 3) := by decide +kernel
theorem dX11_nextEvent_16 : decode cX11_nextEvent 16 = .ok (.aload_n 0, 1) := by decide +kernel
theorem dX11_nextEvent_17 : decode cX11_nextEvent 17 = .ok (.iload_n 2, 1) := by decide +kernel
theorem dX11_nextEvent_18 : decode cX11_nextEvent 18 = .ok (.bipush 8, 2) := by decide +kernel
theorem dX11_nextEvent_20 : decode cX11_nextEvent 20 = .ok (.invokevirtual 94, 3) := by decide +kernel
theorem dX11_nextEvent_23 : decode cX11_nextEvent 23 = .ok (.istore_n 3, 1) := by decide +kernel
theorem dX11_nextEvent_24 : decode cX11_nextEvent 24 = .ok (.iconst 0, 1) := by decide +kernel
theorem dX11_nextEvent_25 : decode cX11_nextEvent 25 = .ok (.istore 4, 2) := by decide +kernel
theorem dX11_nextEvent_27 : decode cX11_nextEvent 27 = .ok (.iload 4, 2) := by decide +kernel
theorem dX11_nextEvent_29 : decode cX11_nextEvent 29 = .ok (.iload_n 1, 1) := by decide +kernel
theorem dX11_nextEvent_30 : decode cX11_nextEvent 30 = .ok (.if_icmp .ge 36, 3) := by decide +kernel
theorem dX11_nextEvent_33 : decode cX11_nextEvent 33 = .ok (.aload_n 0, 1) := by decide +kernel
theorem dX11_nextEvent_34 : decode cX11_nextEvent 34 = .ok (.getfield 59, 3) := by decide +kernel
theorem dX11_nextEvent_37 : decode cX11_nextEvent 37 = .ok (.iload 4, 2) := by decide +kernel
theorem dX11_nextEvent_39 : decode cX11_nextEvent 39 = .ok (.iaload, 1) := by decide +kernel
theorem dX11_nextEvent_40 : decode cX11_nextEvent 40 = .ok (.iconst (-1), 1) := by decide +kernel
theorem dX11_nextEvent_41 : decode cX11_nextEvent 41 = .ok (.if_icmp .ne 7, 3) := by decide +kernel
theorem dX11_nextEvent_44 : decode cX11_nextEvent 44 = .ok (.iload_n 3, 1) := by decide +kernel
theorem dX11_nextEvent_45 : decode cX11_nextEvent 45 = .ok (.goto 14, 3) := by decide +kernel
theorem dX11_nextEvent_48 : decode cX11_nextEvent 48 = .ok (.iload_n 3, 1) := by decide +kernel
theorem dX11_nextEvent_49 : decode cX11_nextEvent 49 = .ok (.aload_n 0, 1) := by decide +kernel
theorem dX11_nextEvent_50 : decode cX11_nextEvent 50 = .ok (.getfield 62, 3) := by decide +kernel
theorem dX11_nextEvent_53 : decode cX11_nextEvent 53 = .ok (.iload 4, 2) := by decide +kernel
theorem dX11_nextEvent_55 : decode cX11_nextEvent 55 = .ok (.iaload, 1) := by decide +kernel
theorem dX11_nextEvent_56 : decode cX11_nextEvent 56 = .ok (.invokestatic 267, 3) := by decide +kernel
theorem dX11_nextEvent_59 : decode cX11_nextEvent 59 = .ok (.istore_n 3, 1) := by decide +kernel
theorem dX11_nextEvent_60 : decode cX11_nextEvent 60 = .ok (.iinc 4 1, 3) := by decide +kernel
theorem dX11_nextEvent_63 : decode cX11_nextEvent 63 = .ok (.goto (-36), 3) := by decide +kernel
theorem dX11_nextEvent_66 : decode cX11_nextEvent 66 = .ok (.iload_n 3, 1) := by decide +kernel
theorem dX11_nextEvent_67 : decode cX11_nextEvent 67 = .ok (.ireturn, 1) := by decide +kernel
theorem dX11_finishes_0 : decode cX11_finishes 0 = .ok (.aload_n 0, 1) := by decide +kernel
theorem dX11_finishes_1 : decode cX11_finishes 1 = .ok (.invokevirtual 282, 3) := by decide +kernel
theorem dX11_finishes_4 : decode cX11_finishes 4 = .ok (.aload_n 0, 1) := by decide +kernel
theorem dX11_finishes_5 : decode cX11_finishes 5 = .ok (.getfield 7, 3) := by decide +kernel
theorem dX11_finishes_8 : decode cX11_finishes 8 = .ok (.iconst 0, 1) := by decide +kernel
theorem dX11_finishes_9 : decode cX11_finishes 9 = .ok (.iaload, 1) := by decide +kernel
theorem dX11_finishes_10 : decode cX11_finishes 10 = .ok (.istore_n 3, 1) := by decide +kernel
theorem dX11_finishes_11 : decode cX11_finishes 11 = .ok (.aload_n 0, 1) := by decide +kernel
theorem dX11_finishes_12 : decode cX11_finishes 12 = .ok (.iconst (-1), 1) := by decide +kernel
theorem dX11_finishes_13 : decode cX11_finishes 13 = .ok (.putfield 65, 3) := by decide +kernel
theorem dX11_finishes_16 : decode cX11_finishes 16 = .ok (.aload_n 0, 1) := by decide +kernel
theorem dX11_finishes_17 : decode cX11_finishes 17 = .ok (.iconst 0, 1) := by decide +kernel
theorem dX11_finishes_18 : decode cX11_finishes 18 = .ok (.putfield 68, 3) := by decide +kernel
theorem dX11_finishes_21 : decode cX11_finishes 21 = .ok (.aload_n 0, 1) := by decide +kernel
theorem dX11_finishes_22 : decode cX11_finishes 22 = .ok (.iconst (-1), 1) := by decide +kernel
theorem dX11_finishes_23 : decode cX11_finishes 23 = .ok (.putfield 71, 3) := by decide +kernel
theorem dX11_finishes_26 : decode cX11_finishes 26 = .ok (.iconst 0, 1) := by decide +kernel
theorem dX11_finishes_27 : decode cX11_finishes 27 = .ok (.istore 4, 2) := by decide +kernel
theorem dX11_finishes_29 : decode cX11_finishes 29 = .ok (.iload 4, 2) := by decide +kernel
theorem dX11_finishes_31 : decode cX11_finishes 31 = .ok (.bipush 6, 2) := by decide +kernel
theorem dX11_finishes_33 : decode cX11_finishes 33 = .ok (.if_icmp .ge 17, 3) := by decide +kernel
theorem dX11_finishes_36 : decode cX11_finishes 36 = .ok (.aload_n 0, 1) := by decide +kernel
theorem dX11_finishes_37 : decode cX11_finishes 37 = .ok (.getfield 59, 3) := by decide +kernel
theorem dX11_finishes_40 : decode cX11_finishes 40 = .ok (.iload 4, 2) := by decide +kernel
theorem dX11_finishes_42 : decode cX11_finishes 42 = .ok (.iconst (-1), 1) := by decide +kernel
theorem dX11_finishes_43 : decode cX11_finishes 43 = .ok (.iastore, 1) := by decide +kernel
theorem dX11_finishes_44 : decode cX11_finishes 44 = .ok (.iinc 4 1, 3) := by decide +kernel
theorem dX11_finishes_47 : decode cX11_finishes 47 = .ok (.goto (-18), 3) := by decide +kernel
theorem dX11_finishes_50 : decode cX11_finishes 50 = .ok (.aload_n 0, 1) := by decide +kernel
theorem dX11_finishes_51 : decode cX11_finishes 51 = .ok (.getfield 7, 3) := by decide +kernel
theorem dX11_finishes_54 : decode cX11_finishes 54 = .ok (.iconst 1, 1) := by decide +kernel
theorem dX11_finishes_55 : decode cX11_finishes 55 = .ok (.iaload, 1) := by decide +kernel
theorem dX11_finishes_56 : decode cX11_finishes 56 = .ok (.istore 4, 2) := by decide +kernel
theorem dX11_finishes_58 : decode cX11_finishes 58 = .ok (.iconst 0, 1) := by decide +kernel
theorem dX11_finishes_59 : decode cX11_finishes 59 = .ok (.istore 5, 2) := by decide +kernel
theorem dX11_finishes_61 : decode cX11_finishes 61 = .ok (.iload 5, 2) := by decide +kernel
theorem dX11_finishes_63 : decode cX11_finishes 63 = .ok (.iload 4, 2) := by decide +kernel
theorem dX11_finishes_65 : decode cX11_finishes 65 = .ok (.if_icmp .ge 33, 3) := by decide +kernel
theorem dX11_finishes_68 : decode cX11_finishes 68 = .ok (.aload_n 0, 1) := by decide +kernel
theorem dX11_finishes_69 : decode cX11_finishes 69 = .ok (.getfield 74, 3) := by decide +kernel
theorem dX11_finishes_72 : decode cX11_finishes 72 = .ok (.iload 5, 2) := by decide +kernel
theorem dX11_finishes_74 : decode cX11_finishes 74 = .ok (.aload_n 0, 1) := by decide +kernel
theorem dX11_finishes_75 : decode cX11_finishes 75 = .ok (.iload 5, 2) := by decide +kernel
theorem dX11_finishes_77 : decode cX11_finishes 77 = .ok (.bipush 6, 2) := by decide +kernel
theorem dX11_finishes_79 : decode cX11_finishes 79 = .ok (.invokevirtual 94, 3) := by decide +kernel
theorem dX11_finishes_82 : decode cX11_finishes 82 = .ok (.iconst 3, 1) := by decide +kernel
theorem dX11_finishes_83 : decode cX11_finishes 83 = .ok (.if_icmp .ne 7, 3) := by decide +kernel
theorem dX11_finishes_86 : decode cX11_finishes 86 = .ok (.iconst 1, 1) := by decide +kernel
theorem dX11_finishes_87 : decode cX11_finishes 87 = .ok (.goto 4, 3) := by decide +kernel
theorem dX11_finishes_90 : decode cX11_finishes 90 = .ok (.iconst 0, 1) := by decide +kernel
theorem dX11_finishes_91 : decode cX11_finishes 91 = .ok (.bastore, 1) := by decide +kernel
theorem dX11_finishes_92 : decode cX11_finishes 92 = .ok (.iinc 5 1, 3) := by decide +kernel
theorem dX11_finishes_95 : decode cX11_finishes 95 = .ok (.goto (-34), 3) := by decide +kernel
theorem dX11_finishes_98 : decode cX11_finishes 98 = .ok (.iconst 0, 1) := by decide +kernel
theorem dX11_finishes_99 : decode cX11_finishes 99 = .ok (.istore 5, 2) := by decide +kernel
theorem dX11_finishes_101 : decode cX11_finishes 101 = .ok (.iload 5, 2) := by decide +kernel
theorem dX11_finishes_103 : decode cX11_finishes 103 = .ok (.iload 4, 2) := by decide +kernel
theorem dX11_finishes_105 : decode cX11_finishes 105 = .ok (.if_icmp .ge 34, 3) := by decide +kernel
theorem dX11_finishes_108 : decode cX11_finishes 108 = .ok (.aload_n 0, 1) := by decide +kernel
theorem dX11_finishes_109 : decode cX11_finishes 109 = .ok (.getfield 74, 3) := by decide +kernel
theorem dX11_finishes_112 : decode cX11_finishes 112 = .ok (.iload 5, 2) := by decide +kernel
theorem dX11_finishes_114 : decode cX11_finishes 114 = .ok (.baload, 1) := by decide +kernel
theorem dX11_finishes_115 : decode cX11_finishes 115 = .ok (.ifCond .ne 6, 3) := by decide +kernel
theorem dX11_finishes_118 : decode cX11_finishes 118 = .ok (.goto 15, 3) := by decide +kernel
theorem dX11_finishes_121 : decode cX11_finishes 121 = .ok (.aload_n 0, 1) := by decide +kernel
theorem dX11_finishes_122 : decode cX11_finishes 122 = .ok (.iload 5, 2) := by decide +kernel
theorem dX11_finishes_124 : decode cX11_finishes 124 = .ok (.invokevirtual 140, 3) := by decide +kernel
theorem dX11_finishes_127 : decode cX11_finishes 127 = .ok (.aload_n 0, 1) := by decide +kernel
theorem dX11_finishes_128 : decode cX11_finishes 128 = .ok (.iload 5, 2) := by decide +kernel
theorem dX11_finishes_130 : decode cX11_finishes 130 = .ok (.putfield 65, 3) := by decide +kernel
theorem dX11_finishes_133 : decode cX11_finishes 133 = .ok (.iinc 5 1, 3) := by decide +kernel
theorem dX11_finishes_136 : decode cX11_finishes 136 = .ok (.goto (-35), 3) := by decide +kernel
theorem dX11_finishes_139 : decode cX11_finishes 139 = .ok (.iconst 1, 1) := by decide +kernel
theorem dX11_finishes_140 : decode cX11_finishes 140 = .ok (.istore 5, 2) := by decide +kernel
theorem dX11_finishes_142 : decode cX11_finishes 142 = .ok (.iload 5, 2) := by decide +kernel
theorem dX11_finishes_144 : decode cX11_finishes 144 = .ok (.ifCond .eq 143, 3) := by decide +kernel
theorem dX11_finishes_147 : decode cX11_finishes 147 = .ok (.aload_n 0, 1) := by decide +kernel
theorem dX11_finishes_148 : decode cX11_finishes 148 = .ok (.iload_n 1, 1) := by decide +kernel
theorem dX11_finishes_149 : decode cX11_finishes 149 = .ok (.invokevirtual 298, 3) := by decide +kernel
theorem dX11_finishes_152 : decode cX11_finishes 152 = .ok (.aload_n 0, 1) := by decide +kernel
theorem dX11_finishes_153 : decode cX11_finishes 153 = .ok (.invokevirtual 190, 3) := by decide +kernel
theorem dX11_finishes_156 : decode cX11_finishes 156 = .ok (.aload_n 0, 1) := by decide +kernel
theorem dX11_finishes_157 : decode cX11_finishes 157 = .ok (.iload_n 1, 1) := by decide +kernel
theorem dX11_finishes_158 : decode cX11_finishes 158 = .ok (.invokevirtual 301, 3) := by decide +kernel
theorem dX11_finishes_161 : decode cX11_finishes 161 = .ok (.iload_n 2, 1) := by decide +kernel
theorem dX11_finishes_162 : decode cX11_finishes 162 = .ok (.iconst (-1), 1) := by decide +kernel
theorem dX11_finishes_163 : decode cX11_finishes 163 = .ok (.if_icmp .eq 31, 3) := by decide +kernel
theorem dX11_finishes_166 : decode cX11_finishes 166 = .ok (.aload_n 0, 1) := by decide +kernel
theorem dX11_finishes_167 : decode cX11_finishes 167 = .ok (.getfield 71, 3) := by decide +kernel
theorem dX11_finishes_170 : decode cX11_finishes 170 = .ok (.iconst (-1), 1) := by decide +kernel
theorem dX11_finishes_171 : decode cX11_finishes 171 = .ok (.if_icmp .ne 23, 3) := by decide +kernel
theorem dX11_finishes_174 : decode cX11_finishes 174 = .ok (.aload_n 0, 1) := by decide +kernel
theorem dX11_finishes_175 : decode cX11_finishes 175 = .ok (.iload_n 2, 1) := by decide +kernel
theorem dX11_finishes_176 : decode cX11_finishes 176 = .ok (.invokevirtual 115, 3) := by decide +kernel
theorem dX11_finishes_179 : decode cX11_finishes 179 = .ok (.ifCond .ne 15, 3) := by decide +kernel
theorem dX11_finishes_182 : decode cX11_finishes 182 = .ok (.aload_n 0, 1) := by decide +kernel
theorem dX11_finishes_183 : decode cX11_finishes 183 = .ok (.aload_n 0, 1) := by decide +kernel
theorem dX11_finishes_184 : decode cX11_finishes 184 = .ok (.getfield 7, 3) := by decide +kernel
theorem dX11_finishes_187 : decode cX11_finishes 187 = .ok (.iconst 0, 1) := by decide +kernel
theorem dX11_finishes_188 : decode cX11_finishes 188 = .ok (.iaload, 1) := by decide +kernel
theorem dX11_finishes_189 : decode cX11_finishes 189 = .ok (.iload_n 3, 1) := by decide +kernel
theorem dX11_finishes_190 : decode cX11_finishes 190 = .ok (.isub, 1) := by decide +kernel
theorem dX11_finishes_191 : decode cX11_finishes 191 = .ok (.putfield 71, 3) := by decide +kernel
theorem dX11_finishes_194 : decode cX11_finishes 194 = .ok (.aload_n 0, 1) := by decide +kernel
theorem dX11_finishes_195 : decode cX11_finishes 195 = .ok (.iconst (-1), 1) := by decide +kernel
theorem dX11_finishes_196 : decode cX11_finishes 196 = .ok (.invokevirtual 115, 3) := by decide +kernel
theorem dX11_finishes_199 : decode cX11_finishes 199 = .ok (.ifCond .le 7, 3) := by decide +kernel
theorem dX11_finishes_202 : decode cX11_finishes 202 = .ok (.iconst 1, 1) := by decide +kernel
theorem dX11_finishes_203 : decode cX11_finishes 203 = .ok (.goto 4, 3) := by decide +kernel
theorem dX11_finishes_206 : decode cX11_finishes 206 = .ok (.iconst 0, 1) := by decide +kernel
theorem dX11_finishes_207 : decode cX11_finishes 207 = .ok (.istore 5, 2) := by decide +kernel
theorem dX11_finishes_209 : decode cX11_finishes 209 = .ok (.iload 5, 2) := by decide +kernel
theorem dX11_finishes_211 : decode cX11_finishes 211 = .ok (.ifCond .eq 18, 3) := by decide +kernel
theorem dX11_finishes_214 : decode cX11_finishes 214 = .ok (.aload_n 0, 1) := by decide +kernel
theorem dX11_finishes_215 : decode cX11_finishes 215 = .ok (.iload_n 1, 1) := by decide +kernel
theorem dX11_finishes_216 : decode cX11_finishes 216 = .ok (.invokevirtual 304, 3) := by decide +kernel
theorem dX11_finishes_219 : decode cX11_finishes 219 = .ok (.aload_n 0, 1) := by decide +kernel
theorem dX11_finishes_220 : decode cX11_finishes 220 = .ok (.getfield 7, 3) := by decide +kernel
theorem dX11_finishes_223 : decode cX11_finishes 223 = .ok (.iconst 0, 1) := by decide +kernel
theorem dX11_finishes_224 : decode cX11_finishes 224 = .ok (.iaload, 1) := by decide +kernel
theorem dX11_finishes_225 : decode cX11_finishes 225 = .ok (.isub, 1) := by decide +kernel
theorem dX11_finishes_226 : decode cX11_finishes 226 = .ok (.goto 4, 3) := by decide +kernel
theorem dX11_finishes_229 : decode cX11_finishes 229 = .ok (.iconst 0, 1) := by decide +kernel
theorem dX11_finishes_230 : decode cX11_finishes 230 = .ok (.istore 6, 2) := by decide +kernel
theorem dX11_finishes_232 : decode cX11_finishes 232 = .ok (.iconst 0, 1) := by decide +kernel
theorem dX11_finishes_233 : decode cX11_finishes 233 = .ok (.istore 7, 2) := by decide +kernel
theorem dX11_finishes_235 : decode cX11_finishes 235 = .ok (.iload 7, 2) := by decide +kernel
theorem dX11_finishes_237 : decode cX11_finishes 237 = .ok (.iload_n 1, 1) := by decide +kernel
theorem dX11_finishes_238 : decode cX11_finishes 238 = .ok (.if_icmp .ge 35, 3) := by decide +kernel
theorem dX11_finishes_241 : decode cX11_finishes 241 = .ok (.aload_n 0, 1) := by decide +kernel
theorem dX11_finishes_242 : decode cX11_finishes 242 = .ok (.dup, 1) := by decide +kernel
theorem dX11_finishes_243 : decode cX11_finishes 243 = .ok (.getfield 68, 3) := by decide +kernel
theorem dX11_finishes_246 : decode cX11_finishes 246 = .ok (.aload_n 0, 1) := by decide +kernel
theorem dX11_finishes_247 : decode cX11_finishes 247 = .ok (.getfield 59, 3) := by decide +kernel
theorem dX11_finishes_250 : decode cX11_finishes 250 = .ok (.iload 7, 2) := by decide +kernel
theorem dX11_finishes_252 : decode cX11_finishes 252 = .ok (.iaload, 1) := by decide +kernel
theorem dX11_finishes_253 : decode cX11_finishes 253 = .ok (.iconst (-1), 1) := by decide +kernel
theorem dX11_finishes_254 : decode cX11_finishes 254 = .ok (.if_icmp .ne 8, 3) := by decide +kernel
theorem dX11_finishes_257 : decode cX11_finishes 257 = .ok (.iload 6, 2) := by decide +kernel
theorem dX11_finishes_259 : decode cX11_finishes 259 = .ok (.goto 4, 3) := by decide +kernel
theorem dX11_finishes_262 : decode cX11_finishes 262 = .ok (.iconst 0, 1) := by decide +kernel
theorem dX11_finishes_263 : decode cX11_finishes 263 = .ok (.iadd, 1) := by decide +kernel
theorem dX11_finishes_264 : decode cX11_finishes 264 = .ok (.putfield 68, 3) := by decide +kernel
theorem dX11_finishes_267 : decode cX11_finishes 267 = .ok (.iinc 7 1, 3) := by decide +kernel
theorem dX11_finishes_270 : decode cX11_finishes 270 = .ok (.goto (-35), 3) := by decide +kernel
theorem dX11_finishes_273 : decode cX11_finishes 273 = .ok (.aload_n 0, 1) := by decide +kernel
theorem dX11_finishes_274 : decode cX11_finishes 274 = .ok (.getfield 7, 3) := by decide +kernel
theorem dX11_finishes_277 : decode cX11_finishes 277 = .ok (.iconst 0, 1) := by decide +kernel
theorem dX11_finishes_278 : decode cX11_finishes 278 = .ok (.dup2, 1) := by decide +kernel
theorem dX11_finishes_279 : decode cX11_finishes 279 = .ok (.iaload, 1) := by decide +kernel
theorem dX11_finishes_280 : decode cX11_finishes 280 = .ok (.iload 6, 2) := by decide +kernel
theorem dX11_finishes_282 : decode cX11_finishes 282 = .ok (.iadd, 1) := by decide +kernel
theorem dX11_finishes_283 : decode cX11_finishes 283 = .ok (.iastore, 1) := by decide +kernel
theorem dX11_finishes_284 : decode cX11_finishes 284 = .ok (.goto (-142), 3) := by decide +kernel
theorem dX11_finishes_287 : decode cX11_finishes 287 = .ok (.aload_n 0, 1) := by decide +kernel
theorem dX11_finishes_288 : decode cX11_finishes 288 = .ok (.getfield 7, 3) := by decide +kernel
theorem dX11_finishes_291 : decode cX11_finishes 291 = .ok (.iconst 0, 1) := by decide +kernel
theorem dX11_finishes_292 : decode cX11_finishes 292 = .ok (.iaload, 1) := by decide +kernel
theorem dX11_finishes_293 : decode cX11_finishes 293 = .ok (.iload_n 3, 1) := by decide +kernel
theorem dX11_finishes_294 : decode cX11_finishes 294 = .ok (.isub, 1) := by decide +kernel
theorem dX11_finishes_295 : decode cX11_finishes 295 = .ok (.istore 6, 2) := by decide +kernel
theorem dX11_finishes_297 : decode cX11_finishes 297 = .ok (.aload_n 0, 1) := by decide +kernel
theorem dX11_finishes_298 : decode cX11_finishes 298 = .ok (.invokevirtual 288, 3) := by decide +kernel
theorem dX11_finishes_301 : decode cX11_finishes 301 = .ok (.iload 6, 2) := by decide +kernel
theorem dX11_finishes_303 : decode cX11_finishes 303 = .ok (.ireturn, 1) := by decide +kernel
theorem dX11_finish_0 : decode cX11_finish 0 = .ok (.iload_n 1, 1) := by decide +kernel
theorem dX11_finish_1 : decode cX11_finish 1 = .ok (.iconst 1, 1) := by decide +kernel
theorem dX11_finish_2 : decode cX11_finish 2 = .ok (.bipush 6, 2) := by decide +kernel
theorem dX11_finish_4 : decode cX11_finish 4 = .ok (.invokestatic 90, 3) := by decide +kernel
theorem dX11_finish_7 : decode cX11_finish 7 = .ok (.ifCond .eq 12, 3) := by decide +kernel
theorem dX11_finish_10 : decode cX11_finish 10 = .ok (.iload_n 2, 1) := by decide +kernel
theorem dX11_finish_11 : decode cX11_finish 11 = .ok (.iconst 0, 1) := by decide +kernel
theorem dX11_finish_12 : decode cX11_finish 12 = .ok (.iconst 2, 1) := by decide +kernel
theorem dX11_finish_13 : decode cX11_finish 13 = .ok (.invokestatic 90, 3) := by decide +kernel
theorem dX11_finish_16 : decode cX11_finish 16 = .ok (.ifCond .ne 5, 3) := by decide +kernel
theorem dX11_finish_19 : decode cX11_finish 19 = .ok (.iconst (-1), 1) := by decide +kernel
theorem dX11_finish_20 : decode cX11_finish 20 = .ok (.ireturn, 1) := by decide +kernel
theorem dX11_finish_21 : decode cX11_finish 21 = .ok (.aload_n 0, 1) := by decide +kernel
theorem dX11_finish_22 : decode cX11_finish 22 = .ok (.iload_n 1, 1) := by decide +kernel
theorem dX11_finish_23 : decode cX11_finish 23 = .ok (.iconst (-1), 1) := by decide +kernel
theorem dX11_finish_24 : decode cX11_finish 24 = .ok (.invokevirtual 307, 3) := by decide +kernel
theorem dX11_finish_27 : decode cX11_finish 27 = .ok (.istore_n 3, 1) := by decide +kernel
theorem dX11_finish_28 : decode cX11_finish 28 = .ok (.iload_n 2, 1) := by decide +kernel
theorem dX11_finish_29 : decode cX11_finish 29 = .ok (.ifCond .ne 7, 3) := by decide +kernel
theorem dX11_finish_32 : decode cX11_finish 32 = .ok (.iload_n 3, 1) := by decide +kernel
theorem dX11_finish_33 : decode cX11_finish 33 = .ok (.goto 19, 3) := by decide +kernel
theorem dX11_finish_36 : decode cX11_finish 36 = .ok (.iload_n 2, 1) := by decide +kernel
theorem dX11_finish_37 : decode cX11_finish 37 = .ok (.iconst 1, 1) := by decide +kernel
theorem dX11_finish_38 : decode cX11_finish 38 = .ok (.if_icmp .ne 10, 3) := by decide +kernel
theorem dX11_finish_41 : decode cX11_finish 41 = .ok (.aload_n 0, 1) := by decide +kernel
theorem dX11_finish_42 : decode cX11_finish 42 = .ok (.getfield 65, 3) := by decide +kernel
theorem dX11_finish_45 : decode cX11_finish 45 = .ok (.goto 7, 3) := by decide +kernel
theorem dX11_finish_48 : decode cX11_finish 48 = .ok (.aload_n 0, 1) := by decide +kernel
theorem dX11_finish_49 : decode cX11_finish 49 = .ok (.getfield 68, 3) := by decide +kernel
theorem dX11_finish_52 : decode cX11_finish 52 = .ok (.ireturn, 1) := by decide +kernel
theorem dX11_empties_0 : decode cX11_empties 0 = .ok (.aload_n 0, 1) := by decide +kernel
theorem dX11_empties_1 : decode cX11_empties 1 = .ok (.iload_n 1, 1) := by decide +kernel
theorem dX11_empties_2 : decode cX11_empties 2 = .ok (.invokevirtual 152, 3) := by decide +kernel
theorem dX11_empties_5 : decode cX11_empties 5 = .ok (.ifCond .eq 13, 3) := by decide +kernel
theorem dX11_empties_8 : decode cX11_empties 8 = .ok (.iload_n 2, 1) := by decide +kernel
theorem dX11_empties_9 : decode cX11_empties 9 = .ok (.iconst 1, 1) := by decide +kernel
theorem dX11_empties_10 : decode cX11_empties 10 = .ok (.bipush 6, 2) := by decide +kernel
theorem dX11_empties_12 : decode cX11_empties 12 = .ok (.invokestatic 90, 3) := by decide +kernel
theorem dX11_empties_15 : decode cX11_empties 15 = .ok (.ifCond .ne 5, 3) := by decide +kernel
theorem dX11_empties_18 : decode cX11_empties 18 = .ok (.iconst (-1), 1) := by decide +kernel
theorem dX11_empties_19 : decode cX11_empties 19 = .ok (.ireturn, 1) := by decide +kernel
theorem dX11_empties_20 : decode cX11_empties 20 = .ok (.aload_n 0, 1) := by decide +kernel
theorem dX11_empties_21 : decode cX11_empties 21 = .ok (.iload_n 2, 1) := by decide +kernel
theorem dX11_empties_22 : decode cX11_empties 22 = .ok (.iload_n 1, 1) := by decide +kernel
theorem dX11_empties_23 : decode cX11_empties 23 = .ok (.invokevirtual 307, 3) := by decide +kernel
theorem dX11_empties_26 : decode cX11_empties 26 = .ok (.pop, 1) := by decide +kernel
theorem dX11_empties_27 : decode cX11_empties 27 = .ok (.aload_n 0, 1) := by decide +kernel
theorem dX11_empties_28 : decode cX11_empties 28 = .ok (.getfield 71, 3) := by decide +kernel
theorem dX11_empties_31 : decode cX11_empties 31 = .ok (.ireturn, 1) := by decide +kernel
theorem dX11_enough_0 : decode cX11_enough 0 = .ok (.iload_n 1, 1) := by decide +kernel
theorem dX11_enough_1 : decode cX11_enough 1 = .ok (.ifCond .ge 5, 3) := by decide +kernel
theorem dX11_enough_4 : decode cX11_enough 4 = .ok (.iconst (-1), 1) := by decide +kernel
theorem dX11_enough_5 : decode cX11_enough 5 = .ok (.ireturn, 1) := by decide +kernel
theorem dX11_enough_6 : decode cX11_enough 6 = .ok (.iconst 1, 1) := by decide +kernel
theorem dX11_enough_7 : decode cX11_enough 7 = .ok (.istore_n 2, 1) := by decide +kernel
theorem dX11_enough_8 : decode cX11_enough 8 = .ok (.iload_n 2, 1) := by decide +kernel
theorem dX11_enough_9 : decode cX11_enough 9 = .ok (.bipush 6, 2) := by decide +kernel
theorem dX11_enough_11 : decode cX11_enough 11 = .ok (.if_icmp .gt 21, 3) := by decide +kernel
theorem dX11_enough_14 : decode cX11_enough 14 = .ok (.aload_n 0, 1) := by decide +kernel
theorem dX11_enough_15 : decode cX11_enough 15 = .ok (.iload_n 2, 1) := by decide +kernel
theorem dX11_enough_16 : decode cX11_enough 16 = .ok (.iconst (-1), 1) := by decide +kernel
theorem dX11_enough_17 : decode cX11_enough 17 = .ok (.invokevirtual 307, 3) := by decide +kernel
theorem dX11_enough_20 : decode cX11_enough 20 = .ok (.iload_n 1, 1) := by decide +kernel
theorem dX11_enough_21 : decode cX11_enough 21 = .ok (.if_icmp .gt 5, 3) := by decide +kernel
theorem dX11_enough_24 : decode cX11_enough 24 = .ok (.iload_n 2, 1) := by decide +kernel
theorem dX11_enough_25 : decode cX11_enough 25 = .ok (.ireturn, 1) := by decide +kernel
theorem dX11_enough_26 : decode cX11_enough 26 = .ok (.iinc 2 1, 3) := by decide +kernel
theorem dX11_enough_29 : decode cX11_enough 29 = .ok (.goto (-21), 3) := by decide +kernel
theorem dX11_enough_32 : decode cX11_enough 32 = .ok (.iconst (-1), 1) := by decide +kernel
theorem dX11_enough_33 : decode cX11_enough 33 = .ok (.ireturn, 1) := by decide +kernel
theorem dX11_hangs_0 : decode cX11_hangs 0 = .ok (.aload_n 0, 1) := by decide +kernel
theorem dX11_hangs_1 : decode cX11_hangs 1 = .ok (.iload_n 1, 1) := by decide +kernel
theorem dX11_hangs_2 : decode cX11_hangs 2 = .ok (.invokevirtual 161, 3) := by decide +kernel
theorem dX11_hangs_5 : decode cX11_hangs 5 = .ok (.ifCond .ne 5, 3) := by decide +kernel
theorem dX11_hangs_8 : decode cX11_hangs 8 = .ok (.iconst (-1), 1) := by decide +kernel
theorem dX11_hangs_9 : decode cX11_hangs 9 = .ok (.ireturn, 1) := by decide +kernel
theorem dX11_hangs_10 : decode cX11_hangs 10 = .ok (.iconst 0, 1) := by decide +kernel
theorem dX11_hangs_11 : decode cX11_hangs 11 = .ok (.istore_n 2, 1) := by decide +kernel
theorem dX11_hangs_12 : decode cX11_hangs 12 = .ok (.iconst 0, 1) := by decide +kernel
theorem dX11_hangs_13 : decode cX11_hangs 13 = .ok (.istore_n 3, 1) := by decide +kernel
theorem dX11_hangs_14 : decode cX11_hangs 14 = .ok (.iload_n 3, 1) := by decide +kernel
theorem dX11_hangs_15 : decode cX11_hangs 15 = .ok (.aload_n 0, 1) := by decide +kernel
theorem dX11_hangs_16 : decode cX11_hangs 16 = .ok (.getfield 7, 3) := by decide +kernel
theorem dX11_hangs_19 : decode cX11_hangs 19 = .ok (.iconst 1, 1) := by decide +kernel
theorem dX11_hangs_20 : decode cX11_hangs 20 = .ok (.iaload, 1) := by decide +kernel
theorem dX11_hangs_21 : decode cX11_hangs 21 = .ok (.if_icmp .ge 25, 3) := by decide +kernel
theorem dX11_hangs_24 : decode cX11_hangs 24 = .ok (.aload_n 0, 1) := by decide +kernel
theorem dX11_hangs_25 : decode cX11_hangs 25 = .ok (.getfield 77, 3) := by decide +kernel
theorem dX11_hangs_28 : decode cX11_hangs 28 = .ok (.iload_n 3, 1) := by decide +kernel
theorem dX11_hangs_29 : decode cX11_hangs 29 = .ok (.iload_n 3, 1) := by decide +kernel
theorem dX11_hangs_30 : decode cX11_hangs 30 = .ok (.iload_n 1, 1) := by decide +kernel
theorem dX11_hangs_31 : decode cX11_hangs 31 = .ok (.if_icmp .ne 7, 3) := by decide +kernel
theorem dX11_hangs_34 : decode cX11_hangs 34 = .ok (.iconst 1, 1) := by decide +kernel
theorem dX11_hangs_35 : decode cX11_hangs 35 = .ok (.goto 4, 3) := by decide +kernel
theorem dX11_hangs_38 : decode cX11_hangs 38 = .ok (.iconst 0, 1) := by decide +kernel
theorem dX11_hangs_39 : decode cX11_hangs 39 = .ok (.bastore, 1) := by decide +kernel
theorem dX11_hangs_40 : decode cX11_hangs 40 = .ok (.iinc 3 1, 3) := by decide +kernel
theorem dX11_hangs_43 : decode cX11_hangs 43 = .ok (.goto (-29), 3) := by decide +kernel
theorem dX11_hangs_46 : decode cX11_hangs 46 = .ok (.iload_n 1, 1) := by decide +kernel
theorem dX11_hangs_47 : decode cX11_hangs 47 = .ok (.iconst 1, 1) := by decide +kernel
theorem dX11_hangs_48 : decode cX11_hangs 48 = .ok (.iadd, 1) := by decide +kernel
theorem dX11_hangs_49 : decode cX11_hangs 49 = .ok (.istore_n 3, 1) := by decide +kernel
theorem dX11_hangs_50 : decode cX11_hangs 50 = .ok (.iload_n 3, 1) := by decide +kernel
theorem dX11_hangs_51 : decode cX11_hangs 51 = .ok (.aload_n 0, 1) := by decide +kernel
theorem dX11_hangs_52 : decode cX11_hangs 52 = .ok (.getfield 7, 3) := by decide +kernel
theorem dX11_hangs_55 : decode cX11_hangs 55 = .ok (.iconst 1, 1) := by decide +kernel
theorem dX11_hangs_56 : decode cX11_hangs 56 = .ok (.iaload, 1) := by decide +kernel
theorem dX11_hangs_57 : decode cX11_hangs 57 = .ok (.if_icmp .ge 80, 3) := by decide +kernel
theorem dX11_hangs_60 : decode cX11_hangs 60 = .ok (.aload_n 0, 1) := by decide +kernel
theorem dX11_hangs_61 : decode cX11_hangs 61 = .ok (.iload_n 3, 1) := by decide +kernel
theorem dX11_hangs_62 : decode cX11_hangs 62 = .ok (.iconst 4, 1) := by decide +kernel
theorem dX11_hangs_63 : decode cX11_hangs 63 = .ok (.invokevirtual 94, 3) := by decide +kernel
theorem dX11_hangs_66 : decode cX11_hangs 66 = .ok (.istore 4, 2) := by decide +kernel
theorem dX11_hangs_68 : decode cX11_hangs 68 = .ok (.aload_n 0, 1) := by decide +kernel
theorem dX11_hangs_69 : decode cX11_hangs 69 = .ok (.getfield 77, 3) := by decide +kernel
theorem dX11_hangs_72 : decode cX11_hangs 72 = .ok (.iload_n 3, 1) := by decide +kernel
theorem dX11_hangs_73 : decode cX11_hangs 73 = .ok (.iload 4, 2) := by decide +kernel
theorem dX11_hangs_75 : decode cX11_hangs 75 = .ok (.iconst (-1), 1) := by decide +kernel
theorem dX11_hangs_76 : decode cX11_hangs 76 = .ok (.if_icmp .eq 36, 3) := by decide +kernel
theorem dX11_hangs_79 : decode cX11_hangs 79 = .ok (.aload_n 0, 1) := by decide +kernel
theorem dX11_hangs_80 : decode cX11_hangs 80 = .ok (.getfield 77, 3) := by decide +kernel
theorem dX11_hangs_83 : decode cX11_hangs 83 = .ok (.iload 4, 2) := by decide +kernel
theorem dX11_hangs_85 : decode cX11_hangs 85 = .ok (.baload, 1) := by decide +kernel
theorem dX11_hangs_86 : decode cX11_hangs 86 = .ok (.ifCond .eq 26, 3) := by decide +kernel
theorem dX11_hangs_89 : decode cX11_hangs 89 = .ok (.aload_n 0, 1) := by decide +kernel
theorem dX11_hangs_90 : decode cX11_hangs 90 = .ok (.iload_n 3, 1) := by decide +kernel
theorem dX11_hangs_91 : decode cX11_hangs 91 = .ok (.invokevirtual 98, 3) := by decide +kernel
theorem dX11_hangs_94 : decode cX11_hangs 94 = .ok (.ifCond .ne 14, 3) := by decide +kernel
theorem dX11_hangs_97 : decode cX11_hangs 97 = .ok (.aload_n 0, 1) := by decide +kernel
theorem dX11_hangs_98 : decode cX11_hangs 98 = .ok (.iload_n 3, 1) := by decide +kernel
theorem dX11_hangs_99 : decode cX11_hangs 99 = .ok (.bipush 6, 2) := by decide +kernel
theorem dX11_hangs_101 : decode cX11_hangs 101 = .ok (.invokevirtual 94, 3) := by decide +kernel
theorem dX11_hangs_104 : decode cX11_hangs 104 = .ok (.iconst 5, 1) := by decide +kernel
theorem dX11_hangs_105 : decode cX11_hangs 105 = .ok (.if_icmp .ne 7, 3) := by decide +kernel
theorem dX11_hangs_108 : decode cX11_hangs 108 = .ok (.iconst 1, 1) := by decide +kernel
theorem dX11_hangs_109 : decode cX11_hangs 109 = .ok (.goto 4, 3) := by decide +kernel
theorem dX11_hangs_112 : decode cX11_hangs 112 = .ok (.iconst 0, 1) := by decide +kernel
theorem dX11_hangs_113 : decode cX11_hangs 113 = .ok (.bastore, 1) := by decide +kernel
theorem dX11_hangs_114 : decode cX11_hangs 114 = .ok (.iload_n 2, 1) := by decide +kernel
theorem dX11_hangs_115 : decode cX11_hangs 115 = .ok (.aload_n 0, 1) := by decide +kernel
theorem dX11_hangs_116 : decode cX11_hangs 116 = .ok (.getfield 77, 3) := by decide +kernel
theorem dX11_hangs_119 : decode cX11_hangs 119 = .ok (.iload_n 3, 1) := by decide +kernel
theorem dX11_hangs_120 : decode cX11_hangs 120 = .ok (.baload, 1) := by decide +kernel
theorem dX11_hangs_121 : decode cX11_hangs 121 = .ok (.ifCond .eq 7, 3) := by decide +kernel
theorem dX11_hangs_124 : decode cX11_hangs 124 = .ok (.iconst 1, 1) := by decide +kernel
theorem dX11_hangs_125 : decode cX11_hangs 125 = .ok (.goto 4, 3) := by decide +kernel
theorem dX11_hangs_128 : decode cX11_hangs 128 = .ok (.iconst 0, 1) := by decide +kernel
theorem dX11_hangs_129 : decode cX11_hangs 129 = .ok (.iadd, 1) := by decide +kernel
theorem dX11_hangs_130 : decode cX11_hangs 130 = .ok (.istore_n 2, 1) := by decide +kernel
theorem dX11_hangs_131 : decode cX11_hangs 131 = .ok (.iinc 3 1, 3) := by decide +kernel
theorem dX11_hangs_134 : decode cX11_hangs 134 = .ok (.goto (-84), 3) := by decide +kernel
theorem dX11_hangs_137 : decode cX11_hangs 137 = .ok (.iload_n 2, 1) := by decide +kernel
theorem dX11_hangs_138 : decode cX11_hangs 138 = .ok (.ireturn, 1) := by decide +kernel
theorem dX11_spread_0 : decode cX11_spread 0 = .ok (.iload_n 1, 1) := by decide +kernel
theorem dX11_spread_1 : decode cX11_spread 1 = .ok (.iconst 0, 1) := by decide +kernel
theorem dX11_spread_2 : decode cX11_spread 2 = .ok (.iconst 2, 1) := by decide +kernel
theorem dX11_spread_3 : decode cX11_spread 3 = .ok (.invokestatic 90, 3) := by decide +kernel
theorem dX11_spread_6 : decode cX11_spread 6 = .ok (.ifCond .ne 5, 3) := by decide +kernel
theorem dX11_spread_9 : decode cX11_spread 9 = .ok (.iconst (-1), 1) := by decide +kernel
theorem dX11_spread_10 : decode cX11_spread 10 = .ok (.ireturn, 1) := by decide +kernel
theorem dX11_spread_11 : decode cX11_spread 11 = .ok (.iconst (-1), 1) := by decide +kernel
theorem dX11_spread_12 : decode cX11_spread 12 = .ok (.istore_n 2, 1) := by decide +kernel
theorem dX11_spread_13 : decode cX11_spread 13 = .ok (.iconst (-1), 1) := by decide +kernel
theorem dX11_spread_14 : decode cX11_spread 14 = .ok (.istore_n 3, 1) := by decide +kernel
theorem dX11_spread_15 : decode cX11_spread 15 = .ok (.iconst 0, 1) := by decide +kernel
theorem dX11_spread_16 : decode cX11_spread 16 = .ok (.istore 4, 2) := by decide +kernel
theorem dX11_spread_18 : decode cX11_spread 18 = .ok (.iload 4, 2) := by decide +kernel
theorem dX11_spread_20 : decode cX11_spread 20 = .ok (.iconst 5, 1) := by decide +kernel
theorem dX11_spread_21 : decode cX11_spread 21 = .ok (.if_icmp .ge 97, 3) := by decide +kernel
theorem dX11_spread_24 : decode cX11_spread 24 = .ok (.aload_n 0, 1) := by decide +kernel
theorem dX11_spread_25 : decode cX11_spread 25 = .ok (.iload 4, 2) := by decide +kernel
theorem dX11_spread_27 : decode cX11_spread 27 = .ok (.invokevirtual 109, 3) := by decide +kernel
theorem dX11_spread_30 : decode cX11_spread 30 = .ok (.ifCond .ne 6, 3) := by decide +kernel
theorem dX11_spread_33 : decode cX11_spread 33 = .ok (.goto 79, 3) := by decide +kernel
theorem dX11_spread_36 : decode cX11_spread 36 = .ok (.iload_n 2, 1) := by decide +kernel
theorem dX11_spread_37 : decode cX11_spread 37 = .ok (.iconst (-1), 1) := by decide +kernel
theorem dX11_spread_38 : decode cX11_spread 38 = .ok (.if_icmp .eq 29, 3) := by decide +kernel
theorem dX11_spread_41 : decode cX11_spread 41 = .ok (.aload_n 0, 1) := by decide +kernel
theorem dX11_spread_42 : decode cX11_spread 42 = .ok (.getfield 7, 3) := by decide +kernel
theorem dX11_spread_45 : decode cX11_spread 45 = .ok (.iload 4, 2) := by decide +kernel
theorem dX11_spread_47 : decode cX11_spread 47 = .ok (.invokestatic 80, 3) := by decide +kernel
theorem dX11_spread_50 : decode cX11_spread 50 = .ok (.iconst 4, 1) := by decide +kernel
theorem dX11_spread_51 : decode cX11_spread 51 = .ok (.iadd, 1) := by decide +kernel
theorem dX11_spread_52 : decode cX11_spread 52 = .ok (.iaload, 1) := by decide +kernel
theorem dX11_spread_53 : decode cX11_spread 53 = .ok (.aload_n 0, 1) := by decide +kernel
theorem dX11_spread_54 : decode cX11_spread 54 = .ok (.getfield 7, 3) := by decide +kernel
theorem dX11_spread_57 : decode cX11_spread 57 = .ok (.iload_n 2, 1) := by decide +kernel
theorem dX11_spread_58 : decode cX11_spread 58 = .ok (.invokestatic 80, 3) := by decide +kernel
theorem dX11_spread_61 : decode cX11_spread 61 = .ok (.iconst 4, 1) := by decide +kernel
theorem dX11_spread_62 : decode cX11_spread 62 = .ok (.iadd, 1) := by decide +kernel
theorem dX11_spread_63 : decode cX11_spread 63 = .ok (.iaload, 1) := by decide +kernel
theorem dX11_spread_64 : decode cX11_spread 64 = .ok (.if_icmp .le 8, 3) := by decide +kernel
theorem dX11_spread_67 : decode cX11_spread 67 = .ok (.iload 4, 2) := by decide +kernel
theorem dX11_spread_69 : decode cX11_spread 69 = .ok (.goto 4, 3) := by decide +kernel
theorem dX11_spread_72 : decode cX11_spread 72 = .ok (.iload_n 2, 1) := by decide +kernel
theorem dX11_spread_73 : decode cX11_spread 73 = .ok (.istore_n 2, 1) := by decide +kernel
theorem dX11_spread_74 : decode cX11_spread 74 = .ok (.iload_n 3, 1) := by decide +kernel
theorem dX11_spread_75 : decode cX11_spread 75 = .ok (.iconst (-1), 1) := by decide +kernel
theorem dX11_spread_76 : decode cX11_spread 76 = .ok (.if_icmp .eq 29, 3) := by decide +kernel
theorem dX11_spread_79 : decode cX11_spread 79 = .ok (.aload_n 0, 1) := by decide +kernel
theorem dX11_spread_80 : decode cX11_spread 80 = .ok (.getfield 7, 3) := by decide +kernel
theorem dX11_spread_83 : decode cX11_spread 83 = .ok (.iload 4, 2) := by decide +kernel
theorem dX11_spread_85 : decode cX11_spread 85 = .ok (.invokestatic 80, 3) := by decide +kernel
theorem dX11_spread_88 : decode cX11_spread 88 = .ok (.iconst 4, 1) := by decide +kernel
theorem dX11_spread_89 : decode cX11_spread 89 = .ok (.iadd, 1) := by decide +kernel
theorem dX11_spread_90 : decode cX11_spread 90 = .ok (.iaload, 1) := by decide +kernel
theorem dX11_spread_91 : decode cX11_spread 91 = .ok (.aload_n 0, 1) := by decide +kernel
theorem dX11_spread_92 : decode cX11_spread 92 = .ok (.getfield 7, 3) := by decide +kernel
theorem dX11_spread_95 : decode cX11_spread 95 = .ok (.iload_n 3, 1) := by decide +kernel
theorem dX11_spread_96 : decode cX11_spread 96 = .ok (.invokestatic 80, 3) := by decide +kernel
theorem dX11_spread_99 : decode cX11_spread 99 = .ok (.iconst 4, 1) := by decide +kernel
theorem dX11_spread_100 : decode cX11_spread 100 = .ok (.iadd, 1) := by decide +kernel
theorem dX11_spread_101 : decode cX11_spread 101 = .ok (.iaload, 1) := by decide +kernel
theorem dX11_spread_102 : decode cX11_spread 102 = .ok (.if_icmp .ge 8, 3) := by decide +kernel
theorem dX11_spread_105 : decode cX11_spread 105 = .ok (.iload 4, 2) := by decide +kernel
theorem dX11_spread_107 : decode cX11_spread 107 = .ok (.goto 4, 3) := by decide +kernel
theorem dX11_spread_110 : decode cX11_spread 110 = .ok (.iload_n 3, 1) := by decide +kernel
theorem dX11_spread_111 : decode cX11_spread 111 = .ok (.istore_n 3, 1) := by decide +kernel
theorem dX11_spread_112 : decode cX11_spread 112 = .ok (.iinc 4 1, 3) := by decide +kernel
theorem dX11_spread_115 : decode cX11_spread 115 = .ok (.goto (-97), 3) := by decide +kernel
theorem dX11_spread_118 : decode cX11_spread 118 = .ok (.iload_n 2, 1) := by decide +kernel
theorem dX11_spread_119 : decode cX11_spread 119 = .ok (.iconst (-1), 1) := by decide +kernel
theorem dX11_spread_120 : decode cX11_spread 120 = .ok (.if_icmp .ne 5, 3) := by decide +kernel
theorem dX11_spread_123 : decode cX11_spread 123 = .ok (.iconst (-1), 1) := by decide +kernel
theorem dX11_spread_124 : decode cX11_spread 124 = .ok (.ireturn, 1) := by decide +kernel
theorem dX11_spread_125 : decode cX11_spread 125 = .ok (.iload_n 1, 1) := by decide +kernel
theorem dX11_spread_126 : decode cX11_spread 126 = .ok (.ifCond .ne 29, 3) := by decide +kernel
theorem dX11_spread_129 : decode cX11_spread 129 = .ok (.aload_n 0, 1) := by decide +kernel
theorem dX11_spread_130 : decode cX11_spread 130 = .ok (.getfield 7, 3) := by decide +kernel
theorem dX11_spread_133 : decode cX11_spread 133 = .ok (.iload_n 2, 1) := by decide +kernel
theorem dX11_spread_134 : decode cX11_spread 134 = .ok (.invokestatic 80, 3) := by decide +kernel
theorem dX11_spread_137 : decode cX11_spread 137 = .ok (.iconst 4, 1) := by decide +kernel
theorem dX11_spread_138 : decode cX11_spread 138 = .ok (.iadd, 1) := by decide +kernel
theorem dX11_spread_139 : decode cX11_spread 139 = .ok (.iaload, 1) := by decide +kernel
theorem dX11_spread_140 : decode cX11_spread 140 = .ok (.aload_n 0, 1) := by decide +kernel
theorem dX11_spread_141 : decode cX11_spread 141 = .ok (.getfield 7, 3) := by decide +kernel
theorem dX11_spread_144 : decode cX11_spread 144 = .ok (.iload_n 3, 1) := by decide +kernel
theorem dX11_spread_145 : decode cX11_spread 145 = .ok (.invokestatic 80, 3) := by decide +kernel
theorem dX11_spread_148 : decode cX11_spread 148 = .ok (.iconst 4, 1) := by decide +kernel
theorem dX11_spread_149 : decode cX11_spread 149 = .ok (.iadd, 1) := by decide +kernel
theorem dX11_spread_150 : decode cX11_spread 150 = .ok (.iaload, 1) := by decide +kernel
theorem dX11_spread_151 : decode cX11_spread 151 = .ok (.isub, 1) := by decide +kernel
theorem dX11_spread_152 : decode cX11_spread 152 = .ok (.goto 13, 3) := by decide +kernel
theorem dX11_spread_155 : decode cX11_spread 155 = .ok (.iload_n 1, 1) := by decide +kernel
theorem dX11_spread_156 : decode cX11_spread 156 = .ok (.iconst 1, 1) := by decide +kernel
theorem dX11_spread_157 : decode cX11_spread 157 = .ok (.if_icmp .ne 7, 3) := by decide +kernel
theorem dX11_spread_160 : decode cX11_spread 160 = .ok (.iload_n 2, 1) := by decide +kernel
theorem dX11_spread_161 : decode cX11_spread 161 = .ok (.goto 4, 3) := by decide +kernel
theorem dX11_spread_164 : decode cX11_spread 164 = .ok (.iload_n 3, 1) := by decide +kernel
theorem dX11_spread_165 : decode cX11_spread 165 = .ok (.ireturn, 1) := by decide +kernel
theorem dX11_blamed_0 : decode cX11_blamed 0 = .ok (.iload_n 1, 1) := by decide +kernel
theorem dX11_blamed_1 : decode cX11_blamed 1 = .ok (.iconst 0, 1) := by decide +kernel
theorem dX11_blamed_2 : decode cX11_blamed 2 = .ok (.bipush 101, 2) := by decide +kernel
theorem dX11_blamed_4 : decode cX11_blamed 4 = .ok (.invokestatic 90, 3) := by decide +kernel
theorem dX11_blamed_7 : decode cX11_blamed 7 = .ok (.ifCond .ne 5, 3) := by decide +kernel
theorem dX11_blamed_10 : decode cX11_blamed 10 = .ok (.iconst (-1), 1) := by decide +kernel
theorem dX11_blamed_11 : decode cX11_blamed 11 = .ok (.ireturn, 1) := by decide +kernel
theorem dX11_blamed_12 : decode cX11_blamed 12 = .ok (.iconst 0, 1) := by decide +kernel
theorem dX11_blamed_13 : decode cX11_blamed 13 = .ok (.istore_n 2, 1) := by decide +kernel
theorem dX11_blamed_14 : decode cX11_blamed 14 = .ok (.iconst 0, 1) := by decide +kernel
theorem dX11_blamed_15 : decode cX11_blamed 15 = .ok (.istore_n 3, 1) := by decide +kernel
theorem dX11_blamed_16 : decode cX11_blamed 16 = .ok (.iload_n 3, 1) := by decide +kernel
theorem dX11_blamed_17 : decode cX11_blamed 17 = .ok (.aload_n 0, 1) := by decide +kernel
theorem dX11_blamed_18 : decode cX11_blamed 18 = .ok (.getfield 7, 3) := by decide +kernel
theorem dX11_blamed_21 : decode cX11_blamed 21 = .ok (.iconst 3, 1) := by decide +kernel
theorem dX11_blamed_22 : decode cX11_blamed 22 = .ok (.iaload, 1) := by decide +kernel
theorem dX11_blamed_23 : decode cX11_blamed 23 = .ok (.if_icmp .ge 37, 3) := by decide +kernel
theorem dX11_blamed_26 : decode cX11_blamed 26 = .ok (.iload_n 2, 1) := by decide +kernel
theorem dX11_blamed_27 : decode cX11_blamed 27 = .ok (.aload_n 0, 1) := by decide +kernel
theorem dX11_blamed_28 : decode cX11_blamed 28 = .ok (.aload_n 0, 1) := by decide +kernel
theorem dX11_blamed_29 : decode cX11_blamed 29 = .ok (.getfield 7, 3) := by decide +kernel
theorem dX11_blamed_32 : decode cX11_blamed 32 = .ok (.sipush 5800, 3) := by decide +kernel
theorem dX11_blamed_35 : decode cX11_blamed 35 = .ok (.iload_n 3, 1) := by decide +kernel
theorem dX11_blamed_36 : decode cX11_blamed 36 = .ok (.iadd, 1) := by decide +kernel
theorem dX11_blamed_37 : decode cX11_blamed 37 = .ok (.iaload, 1) := by decide +kernel
theorem dX11_blamed_38 : decode cX11_blamed 38 = .ok (.bipush 13, 2) := by decide +kernel
theorem dX11_blamed_40 : decode cX11_blamed 40 = .ok (.invokevirtual 94, 3) := by decide +kernel
theorem dX11_blamed_43 : decode cX11_blamed 43 = .ok (.iload_n 1, 1) := by decide +kernel
theorem dX11_blamed_44 : decode cX11_blamed 44 = .ok (.if_icmp .ne 7, 3) := by decide +kernel
theorem dX11_blamed_47 : decode cX11_blamed 47 = .ok (.iconst 1, 1) := by decide +kernel
theorem dX11_blamed_48 : decode cX11_blamed 48 = .ok (.goto 4, 3) := by decide +kernel
theorem dX11_blamed_51 : decode cX11_blamed 51 = .ok (.iconst 0, 1) := by decide +kernel
theorem dX11_blamed_52 : decode cX11_blamed 52 = .ok (.iadd, 1) := by decide +kernel
theorem dX11_blamed_53 : decode cX11_blamed 53 = .ok (.istore_n 2, 1) := by decide +kernel
theorem dX11_blamed_54 : decode cX11_blamed 54 = .ok (.iinc 3 1, 3) := by decide +kernel
theorem dX11_blamed_57 : decode cX11_blamed 57 = .ok (.goto (-41), 3) := by decide +kernel
theorem dX11_blamed_60 : decode cX11_blamed 60 = .ok (.iload_n 2, 1) := by decide +kernel
theorem dX11_blamed_61 : decode cX11_blamed 61 = .ok (.ireturn, 1) := by decide +kernel
theorem dX11_worst_0 : decode cX11_worst 0 = .ok (.aload_n 0, 1) := by decide +kernel
theorem dX11_worst_1 : decode cX11_worst 1 = .ok (.getfield 7, 3) := by decide +kernel
theorem dX11_worst_4 : decode cX11_worst 4 = .ok (.iconst 3, 1) := by decide +kernel
theorem dX11_worst_5 : decode cX11_worst 5 = .ok (.iaload, 1) := by decide +kernel
theorem dX11_worst_6 : decode cX11_worst 6 = .ok (.ifCond .ne 5, 3) := by decide +kernel
theorem dX11_worst_9 : decode cX11_worst 9 = .ok (.iconst (-1), 1) := by decide +kernel
theorem dX11_worst_10 : decode cX11_worst 10 = .ok (.ireturn, 1) := by decide +kernel
theorem dX11_worst_11 : decode cX11_worst 11 = .ok (.iconst 0, 1) := by decide +kernel
theorem dX11_worst_12 : decode cX11_worst 12 = .ok (.istore_n 1, 1) := by decide +kernel
theorem dX11_worst_13 : decode cX11_worst 13 = .ok (.iconst 1, 1) := by decide +kernel
theorem dX11_worst_14 : decode cX11_worst 14 = .ok (.istore_n 2, 1) := by decide +kernel
theorem dX11_worst_15 : decode cX11_worst 15 = .ok (.iload_n 2, 1) := by decide +kernel
theorem dX11_worst_16 : decode cX11_worst 16 = .ok (.bipush 101, 2) := by decide +kernel
theorem dX11_worst_18 : decode cX11_worst 18 = .ok (.if_icmp .gt 28, 3) := by decide +kernel
theorem dX11_worst_21 : decode cX11_worst 21 = .ok (.aload_n 0, 1) := by decide +kernel
theorem dX11_worst_22 : decode cX11_worst 22 = .ok (.iload_n 2, 1) := by decide +kernel
theorem dX11_worst_23 : decode cX11_worst 23 = .ok (.invokevirtual 310, 3) := by decide +kernel
theorem dX11_worst_26 : decode cX11_worst 26 = .ok (.aload_n 0, 1) := by decide +kernel
theorem dX11_worst_27 : decode cX11_worst 27 = .ok (.iload_n 1, 1) := by decide +kernel
theorem dX11_worst_28 : decode cX11_worst 28 = .ok (.invokevirtual 310, 3) := by decide +kernel
theorem dX11_worst_31 : decode cX11_worst 31 = .ok (.if_icmp .le 7, 3) := by decide +kernel
theorem dX11_worst_34 : decode cX11_worst 34 = .ok (.iload_n 2, 1) := by decide +kernel
theorem dX11_worst_35 : decode cX11_worst 35 = .ok (.goto 4, 3) := by decide +kernel
theorem dX11_worst_38 : decode cX11_worst 38 = .ok (.iload_n 1, 1) := by decide +kernel
theorem dX11_worst_39 : decode cX11_worst 39 = .ok (.istore_n 1, 1) := by decide +kernel
theorem dX11_worst_40 : decode cX11_worst 40 = .ok (.iinc 2 1, 3) := by decide +kernel
theorem dX11_worst_43 : decode cX11_worst 43 = .ok (.goto (-28), 3) := by decide +kernel
theorem dX11_worst_46 : decode cX11_worst 46 = .ok (.iload_n 1, 1) := by decide +kernel
theorem dX11_worst_47 : decode cX11_worst 47 = .ok (.ireturn, 1) := by decide +kernel
theorem dX11_log_0 : decode cX11_log 0 = .ok (.iload_n 1, 1) := by decide +kernel
theorem dX11_log_1 : decode cX11_log 1 = .ok (.iconst 0, 1) := by decide +kernel
theorem dX11_log_2 : decode cX11_log 2 = .ok (.aload_n 0, 1) := by decide +kernel
theorem dX11_log_3 : decode cX11_log 3 = .ok (.getfield 28, 3) := by decide +kernel
theorem dX11_log_6 : decode cX11_log 6 = .ok (.bipush 64, 2) := by decide +kernel
theorem dX11_log_8 : decode cX11_log 8 = .ok (.invokestatic 267, 3) := by decide +kernel
theorem dX11_log_11 : decode cX11_log 11 = .ok (.iconst 1, 1) := by decide +kernel
theorem dX11_log_12 : decode cX11_log 12 = .ok (.isub, 1) := by decide +kernel
theorem dX11_log_13 : decode cX11_log 13 = .ok (.invokestatic 90, 3) := by decide +kernel
theorem dX11_log_16 : decode cX11_log 16 = .ok (.ifCond .eq 12, 3) := by decide +kernel
theorem dX11_log_19 : decode cX11_log 19 = .ok (.iload_n 2, 1) := by decide +kernel
theorem dX11_log_20 : decode cX11_log 20 = .ok (.iconst 0, 1) := by decide +kernel
theorem dX11_log_21 : decode cX11_log 21 = .ok (.iconst 5, 1) := by decide +kernel
theorem dX11_log_22 : decode cX11_log 22 = .ok (.invokestatic 90, 3) := by decide +kernel
theorem dX11_log_25 : decode cX11_log 25 = .ok (.ifCond .ne 6, 3) := by decide +kernel
theorem dX11_log_28 : decode cX11_log 28 = .ok (.bipush (-2), 2) := by decide +kernel
theorem dX11_log_30 : decode cX11_log 30 = .ok (.ireturn, 1) := by decide +kernel
theorem dX11_log_31 : decode cX11_log 31 = .ok (.aload_n 0, 1) := by decide +kernel
theorem dX11_log_32 : decode cX11_log 32 = .ok (.getfield 25, 3) := by decide +kernel
theorem dX11_log_35 : decode cX11_log 35 = .ok (.bipush 6, 2) := by decide +kernel
theorem dX11_log_37 : decode cX11_log 37 = .ok (.aload_n 0, 1) := by decide +kernel
theorem dX11_log_38 : decode cX11_log 38 = .ok (.getfield 28, 3) := by decide +kernel
theorem dX11_log_41 : decode cX11_log 41 = .ok (.iconst 1, 1) := by decide +kernel
theorem dX11_log_42 : decode cX11_log 42 = .ok (.isub, 1) := by decide +kernel
theorem dX11_log_43 : decode cX11_log 43 = .ok (.iload_n 1, 1) := by decide +kernel
theorem dX11_log_44 : decode cX11_log 44 = .ok (.isub, 1) := by decide +kernel
theorem dX11_log_45 : decode cX11_log 45 = .ok (.bipush 64, 2) := by decide +kernel
theorem dX11_log_47 : decode cX11_log 47 = .ok (.irem, 1) := by decide +kernel
theorem dX11_log_48 : decode cX11_log 48 = .ok (.imul, 1) := by decide +kernel
theorem dX11_log_49 : decode cX11_log 49 = .ok (.iload_n 2, 1) := by decide +kernel
theorem dX11_log_50 : decode cX11_log 50 = .ok (.iadd, 1) := by decide +kernel
theorem dX11_log_51 : decode cX11_log 51 = .ok (.iaload, 1) := by decide +kernel
theorem dX11_log_52 : decode cX11_log 52 = .ok (.ireturn, 1) := by decide +kernel
