theorem dX0_init_0 : decode cX0_init 0 = .ok (.aload_n 0, 1) := by decide +kernel
theorem dX0_init_1 : decode cX0_init 1 = .ok (.invokespecial 3, 3) := by decide +kernel
theorem dX0_init_4 : decode cX0_init 4 = .ok (.aload_n 0, 1) := by decide +kernel
theorem dX0_init_5 : decode cX0_init 5 = .ok (.iconst 0, 1) := by decide +kernel
theorem dX0_init_6 : decode cX0_init 6 = .ok (.putfield 9, 3) := by decide +kernel
theorem dX0_init_9 : decode cX0_init 9 = .ok (.aload_n 0, 1) := by decide +kernel
theorem dX0_init_10 : decode cX0_init 10 = .ok (.iconst 0, 1) := by decide +kernel
theorem dX0_init_11 : decode cX0_init 11 = .ok (.putfield 15, 3) := by decide +kernel
theorem dX0_init_14 : decode cX0_init 14 = .ok (.aload_n 0, 1) := by decide +kernel
theorem dX0_init_15 : decode cX0_init 15 = .ok (.iconst 0, 1) := by decide +kernel
theorem dX0_init_16 : decode cX0_init 16 = .ok (.putfield 18, 3) := by decide +kernel
theorem dX0_init_19 : decode cX0_init 19 = .ok (.aload_n 0, 1) := by decide +kernel
theorem dX0_init_20 : decode cX0_init 20 = .ok (.bipush 15, 2) := by decide +kernel
theorem dX0_init_22 : decode cX0_init 22 = .ok (.newarray .int, 2) := by decide +kernel
theorem dX0_init_24 : decode cX0_init 24 = .ok (.putfield 21, 3) := by decide +kernel
theorem dX0_init_27 : decode cX0_init 27 = .ok (.aload_n 0, 1) := by decide +kernel
theorem dX0_init_28 : decode cX0_init 28 = .ok (.iconst 3, 1) := by decide +kernel
theorem dX0_init_29 : decode cX0_init 29 = .ok (.newarray .int, 2) := by decide +kernel
theorem dX0_init_31 : decode cX0_init 31 = .ok (.putfield 25, 3) := by decide +kernel
theorem dX0_init_34 : decode cX0_init 34 = .ok (.return_, 1) := by decide +kernel
theorem dX0_look_0 : decode cX0_look 0 = .ok (.aload_n 0, 1) := by decide +kernel
theorem dX0_look_1 : decode cX0_look 1 = .ok (.aload_n 1, 1) := by decide +kernel
theorem dX0_look_2 : decode cX0_look 2 = .ok (.getfield 28, 3) := by decide +kernel
theorem dX0_look_5 : decode cX0_look 5 = .ok (.putfield 9, 3) := by decide +kernel
theorem dX0_look_8 : decode cX0_look 8 = .ok (.aload_n 0, 1) := by decide +kernel
theorem dX0_look_9 : decode cX0_look 9 = .ok (.aload_n 1, 1) := by decide +kernel
theorem dX0_look_10 : decode cX0_look 10 = .ok (.getfield 31, 3) := by decide +kernel
theorem dX0_look_13 : decode cX0_look 13 = .ok (.putfield 15, 3) := by decide +kernel
theorem dX0_look_16 : decode cX0_look 16 = .ok (.aload_n 0, 1) := by decide +kernel
theorem dX0_look_17 : decode cX0_look 17 = .ok (.aload_n 1, 1) := by decide +kernel
theorem dX0_look_18 : decode cX0_look 18 = .ok (.getfield 32, 3) := by decide +kernel
theorem dX0_look_21 : decode cX0_look 21 = .ok (.putfield 18, 3) := by decide +kernel
theorem dX0_look_24 : decode cX0_look 24 = .ok (.iconst 0, 1) := by decide +kernel
theorem dX0_look_25 : decode cX0_look 25 = .ok (.istore 5, 2) := by decide +kernel
theorem dX0_look_27 : decode cX0_look 27 = .ok (.iload 5, 2) := by decide +kernel
theorem dX0_look_29 : decode cX0_look 29 = .ok (.aload_n 0, 1) := by decide +kernel
theorem dX0_look_30 : decode cX0_look 30 = .ok (.getfield 9, 3) := by decide +kernel
theorem dX0_look_33 : decode cX0_look 33 = .ok (.if_icmp .ge 89, 3) := by decide +kernel
theorem dX0_look_36 : decode cX0_look 36 = .ok (.iconst 0, 1) := by decide +kernel
theorem dX0_look_37 : decode cX0_look 37 = .ok (.istore 6, 2) := by decide +kernel
theorem dX0_look_39 : decode cX0_look 39 = .ok (.iload 6, 2) := by decide +kernel
theorem dX0_look_41 : decode cX0_look 41 = .ok (.aload_n 0, 1) := by decide +kernel
theorem dX0_look_42 : decode cX0_look 42 = .ok (.getfield 15, 3) := by decide +kernel
theorem dX0_look_45 : decode cX0_look 45 = .ok (.if_icmp .ge 71, 3) := by decide +kernel
theorem dX0_look_48 : decode cX0_look 48 = .ok (.aload_n 2, 1) := by decide +kernel
theorem dX0_look_49 : decode cX0_look 49 = .ok (.aload_n 1, 1) := by decide +kernel
theorem dX0_look_50 : decode cX0_look 50 = .ok (.iload_n 3, 1) := by decide +kernel
theorem dX0_look_51 : decode cX0_look 51 = .ok (.iload 5, 2) := by decide +kernel
theorem dX0_look_53 : decode cX0_look 53 = .ok (.iload 6, 2) := by decide +kernel
theorem dX0_look_55 : decode cX0_look 55 = .ok (.invokevirtual 33, 3) := by decide +kernel
theorem dX0_look_58 : decode cX0_look 58 = .ok (.iaload, 1) := by decide +kernel
theorem dX0_look_59 : decode cX0_look 59 = .ok (.istore 7, 2) := by decide +kernel
theorem dX0_look_61 : decode cX0_look 61 = .ok (.iload 7, 2) := by decide +kernel
theorem dX0_look_63 : decode cX0_look 63 = .ok (.ifCond .le 15, 3) := by decide +kernel
theorem dX0_look_66 : decode cX0_look 66 = .ok (.iload 7, 2) := by decide +kernel
theorem dX0_look_68 : decode cX0_look 68 = .ok (.aload 4, 2) := by decide +kernel
theorem dX0_look_70 : decode cX0_look 70 = .ok (.arraylength, 1) := by decide +kernel
theorem dX0_look_71 : decode cX0_look 71 = .ok (.if_icmp .ge 7, 3) := by decide +kernel
theorem dX0_look_74 : decode cX0_look 74 = .ok (.iconst 1, 1) := by decide +kernel
theorem dX0_look_75 : decode cX0_look 75 = .ok (.goto 4, 3) := by decide +kernel
theorem dX0_look_78 : decode cX0_look 78 = .ok (.iconst 0, 1) := by decide +kernel
theorem dX0_look_79 : decode cX0_look 79 = .ok (.istore 8, 2) := by decide +kernel
theorem dX0_look_81 : decode cX0_look 81 = .ok (.aload_n 0, 1) := by decide +kernel
theorem dX0_look_82 : decode cX0_look 82 = .ok (.getfield 21, 3) := by decide +kernel
theorem dX0_look_85 : decode cX0_look 85 = .ok (.iload 5, 2) := by decide +kernel
theorem dX0_look_87 : decode cX0_look 87 = .ok (.aload_n 0, 1) := by decide +kernel
theorem dX0_look_88 : decode cX0_look 88 = .ok (.getfield 15, 3) := by decide +kernel
theorem dX0_look_91 : decode cX0_look 91 = .ok (.imul, 1) := by decide +kernel
theorem dX0_look_92 : decode cX0_look 92 = .ok (.iload 6, 2) := by decide +kernel
theorem dX0_look_94 : decode cX0_look 94 = .ok (.iadd, 1) := by decide +kernel
theorem dX0_look_95 : decode cX0_look 95 = .ok (.iload 8, 2) := by decide +kernel
theorem dX0_look_97 : decode cX0_look 97 = .ok (.ifCond .eq 11, 3) := by decide +kernel
theorem dX0_look_100 : decode cX0_look 100 = .ok (.aload 4, 2) := by decide +kernel
theorem dX0_look_102 : decode cX0_look 102 = .ok (.iload 7, 2) := by decide +kernel
theorem dX0_look_104 : decode cX0_look 104 = .ok (.iaload, 1) := by decide +kernel
theorem dX0_look_105 : decode cX0_look 105 = .ok (.goto 4, 3) := by decide +kernel
theorem dX0_look_108 : decode cX0_look 108 = .ok (.iconst 0, 1) := by decide +kernel
theorem dX0_look_109 : decode cX0_look 109 = .ok (.iastore, 1) := by decide +kernel
theorem dX0_look_110 : decode cX0_look 110 = .ok (.iinc 6 1, 3) := by decide +kernel
theorem dX0_look_113 : decode cX0_look 113 = .ok (.goto (-74), 3) := by decide +kernel
theorem dX0_look_116 : decode cX0_look 116 = .ok (.iinc 5 1, 3) := by decide +kernel
theorem dX0_look_119 : decode cX0_look 119 = .ok (.goto (-92), 3) := by decide +kernel
theorem dX0_look_122 : decode cX0_look 122 = .ok (.return_, 1) := by decide +kernel
theorem dX0_turnAt_0 : decode cX0_turnAt 0 = .ok (.iload_n 1, 1) := by decide +kernel
theorem dX0_turnAt_1 : decode cX0_turnAt 1 = .ok (.aload_n 0, 1) := by decide +kernel
theorem dX0_turnAt_2 : decode cX0_turnAt 2 = .ok (.getfield 15, 3) := by decide +kernel
theorem dX0_turnAt_5 : decode cX0_turnAt 5 = .ok (.imul, 1) := by decide +kernel
theorem dX0_turnAt_6 : decode cX0_turnAt 6 = .ok (.iload_n 2, 1) := by decide +kernel
theorem dX0_turnAt_7 : decode cX0_turnAt 7 = .ok (.iadd, 1) := by decide +kernel
theorem dX0_turnAt_8 : decode cX0_turnAt 8 = .ok (.istore_n 3, 1) := by decide +kernel
theorem dX0_turnAt_9 : decode cX0_turnAt 9 = .ok (.iload_n 3, 1) := by decide +kernel
theorem dX0_turnAt_10 : decode cX0_turnAt 10 = .ok (.ifCond .lt 12, 3) := by decide +kernel
theorem dX0_turnAt_13 : decode cX0_turnAt 13 = .ok (.iload_n 3, 1) := by decide +kernel
theorem dX0_turnAt_14 : decode cX0_turnAt 14 = .ok (.aload_n 0, 1) := by decide +kernel
theorem dX0_turnAt_15 : decode cX0_turnAt 15 = .ok (.getfield 21, 3) := by decide +kernel
theorem dX0_turnAt_18 : decode cX0_turnAt 18 = .ok (.arraylength, 1) := by decide +kernel
theorem dX0_turnAt_19 : decode cX0_turnAt 19 = .ok (.if_icmp .lt 7, 3) := by decide +kernel
theorem dX0_turnAt_22 : decode cX0_turnAt 22 = .ok (.iconst 0, 1) := by decide +kernel
theorem dX0_turnAt_23 : decode cX0_turnAt 23 = .ok (.goto 9, 3) := by decide +kernel
theorem dX0_turnAt_26 : decode cX0_turnAt 26 = .ok (.aload_n 0, 1) := by decide +kernel
theorem dX0_turnAt_27 : decode cX0_turnAt 27 = .ok (.getfield 21, 3) := by decide +kernel
theorem dX0_turnAt_30 : decode cX0_turnAt 30 = .ok (.iload_n 3, 1) := by decide +kernel
theorem dX0_turnAt_31 : decode cX0_turnAt 31 = .ok (.iaload, 1) := by decide +kernel
theorem dX0_turnAt_32 : decode cX0_turnAt 32 = .ok (.ireturn, 1) := by decide +kernel
theorem dX0_rowTurn_0 : decode cX0_rowTurn 0 = .ok (.iconst 0, 1) := by decide +kernel
theorem dX0_rowTurn_1 : decode cX0_rowTurn 1 = .ok (.istore_n 2, 1) := by decide +kernel
theorem dX0_rowTurn_2 : decode cX0_rowTurn 2 = .ok (.iconst 0, 1) := by decide +kernel
theorem dX0_rowTurn_3 : decode cX0_rowTurn 3 = .ok (.istore_n 3, 1) := by decide +kernel
theorem dX0_rowTurn_4 : decode cX0_rowTurn 4 = .ok (.iload_n 3, 1) := by decide +kernel
theorem dX0_rowTurn_5 : decode cX0_rowTurn 5 = .ok (.aload_n 0, 1) := by decide +kernel
theorem dX0_rowTurn_6 : decode cX0_rowTurn 6 = .ok (.getfield 15, 3) := by decide +kernel
theorem dX0_rowTurn_9 : decode cX0_rowTurn 9 = .ok (.if_icmp .ge 20, 3) := by decide +kernel
theorem dX0_rowTurn_12 : decode cX0_rowTurn 12 = .ok (.iload_n 2, 1) := by decide +kernel
theorem dX0_rowTurn_13 : decode cX0_rowTurn 13 = .ok (.aload_n 0, 1) := by decide +kernel
theorem dX0_rowTurn_14 : decode cX0_rowTurn 14 = .ok (.iload_n 1, 1) := by decide +kernel
theorem dX0_rowTurn_15 : decode cX0_rowTurn 15 = .ok (.iload_n 3, 1) := by decide +kernel
theorem dX0_rowTurn_16 : decode cX0_rowTurn 16 = .ok (.invokevirtual 37, 3) := by decide +kernel
theorem dX0_rowTurn_19 : decode cX0_rowTurn 19 = .ok (.invokestatic 41, 3) := by decide +kernel
theorem dX0_rowTurn_22 : decode cX0_rowTurn 22 = .ok (.istore_n 2, 1) := by decide +kernel
theorem dX0_rowTurn_23 : decode cX0_rowTurn 23 = .ok (.iinc 3 1, 3) := by decide +kernel
theorem dX0_rowTurn_26 : decode cX0_rowTurn 26 = .ok (.goto (-22), 3) := by decide +kernel
theorem dX0_rowTurn_29 : decode cX0_rowTurn 29 = .ok (.iload_n 2, 1) := by decide +kernel
theorem dX0_rowTurn_30 : decode cX0_rowTurn 30 = .ok (.ireturn, 1) := by decide +kernel
theorem dX0_rowLack_0 : decode cX0_rowLack 0 = .ok (.iconst 0, 1) := by decide +kernel
theorem dX0_rowLack_1 : decode cX0_rowLack 1 = .ok (.istore_n 3, 1) := by decide +kernel
theorem dX0_rowLack_2 : decode cX0_rowLack 2 = .ok (.iconst 0, 1) := by decide +kernel
theorem dX0_rowLack_3 : decode cX0_rowLack 3 = .ok (.istore 4, 2) := by decide +kernel
theorem dX0_rowLack_5 : decode cX0_rowLack 5 = .ok (.iload 4, 2) := by decide +kernel
theorem dX0_rowLack_7 : decode cX0_rowLack 7 = .ok (.aload_n 0, 1) := by decide +kernel
theorem dX0_rowLack_8 : decode cX0_rowLack 8 = .ok (.getfield 15, 3) := by decide +kernel
theorem dX0_rowLack_11 : decode cX0_rowLack 11 = .ok (.if_icmp .ge 23, 3) := by decide +kernel
theorem dX0_rowLack_14 : decode cX0_rowLack 14 = .ok (.aload_n 0, 1) := by decide +kernel
theorem dX0_rowLack_15 : decode cX0_rowLack 15 = .ok (.iload_n 1, 1) := by decide +kernel
theorem dX0_rowLack_16 : decode cX0_rowLack 16 = .ok (.iload 4, 2) := by decide +kernel
theorem dX0_rowLack_18 : decode cX0_rowLack 18 = .ok (.invokevirtual 37, 3) := by decide +kernel
theorem dX0_rowLack_21 : decode cX0_rowLack 21 = .ok (.iload_n 2, 1) := by decide +kernel
theorem dX0_rowLack_22 : decode cX0_rowLack 22 = .ok (.if_icmp .le 6, 3) := by decide +kernel
theorem dX0_rowLack_25 : decode cX0_rowLack 25 = .ok (.iinc 3 1, 3) := by decide +kernel
theorem dX0_rowLack_28 : decode cX0_rowLack 28 = .ok (.iinc 4 1, 3) := by decide +kernel
theorem dX0_rowLack_31 : decode cX0_rowLack 31 = .ok (.goto (-26), 3) := by decide +kernel
theorem dX0_rowLack_34 : decode cX0_rowLack 34 = .ok (.iload_n 3, 1) := by decide +kernel
theorem dX0_rowLack_35 : decode cX0_rowLack 35 = .ok (.ireturn, 1) := by decide +kernel
theorem dX0_canHave_0 : decode cX0_canHave 0 = .ok (.aload_n 0, 1) := by decide +kernel
theorem dX0_canHave_1 : decode cX0_canHave 1 = .ok (.getfield 9, 3) := by decide +kernel
theorem dX0_canHave_4 : decode cX0_canHave 4 = .ok (.iload_n 1, 1) := by decide +kernel
theorem dX0_canHave_5 : decode cX0_canHave 5 = .ok (.iconst 1, 1) := by decide +kernel
theorem dX0_canHave_6 : decode cX0_canHave 6 = .ok (.if_icmp .ne 7, 3) := by decide +kernel
theorem dX0_canHave_9 : decode cX0_canHave 9 = .ok (.iconst 1, 1) := by decide +kernel
theorem dX0_canHave_10 : decode cX0_canHave 10 = .ok (.goto 4, 3) := by decide +kernel
theorem dX0_canHave_13 : decode cX0_canHave 13 = .ok (.iconst 0, 1) := by decide +kernel
theorem dX0_canHave_14 : decode cX0_canHave 14 = .ok (.if_icmp .le 7, 3) := by decide +kernel
theorem dX0_canHave_17 : decode cX0_canHave 17 = .ok (.iconst 1, 1) := by decide +kernel
theorem dX0_canHave_18 : decode cX0_canHave 18 = .ok (.goto 4, 3) := by decide +kernel
theorem dX0_canHave_21 : decode cX0_canHave 21 = .ok (.iconst 0, 1) := by decide +kernel
theorem dX0_canHave_22 : decode cX0_canHave 22 = .ok (.ireturn, 1) := by decide +kernel
theorem dX0_turnOf_0 : decode cX0_turnOf 0 = .ok (.aload_n 0, 1) := by decide +kernel
theorem dX0_turnOf_1 : decode cX0_turnOf 1 = .ok (.iload_n 1, 1) := by decide +kernel
theorem dX0_turnOf_2 : decode cX0_turnOf 2 = .ok (.invokevirtual 46, 3) := by decide +kernel
theorem dX0_turnOf_5 : decode cX0_turnOf 5 = .ok (.ifCond .ne 5, 3) := by decide +kernel
theorem dX0_turnOf_8 : decode cX0_turnOf 8 = .ok (.iconst (-1), 1) := by decide +kernel
theorem dX0_turnOf_9 : decode cX0_turnOf 9 = .ok (.ireturn, 1) := by decide +kernel
theorem dX0_turnOf_10 : decode cX0_turnOf 10 = .ok (.iconst 0, 1) := by decide +kernel
theorem dX0_turnOf_11 : decode cX0_turnOf 11 = .ok (.istore_n 2, 1) := by decide +kernel
theorem dX0_turnOf_12 : decode cX0_turnOf 12 = .ok (.iload_n 2, 1) := by decide +kernel
theorem dX0_turnOf_13 : decode cX0_turnOf 13 = .ok (.aload_n 0, 1) := by decide +kernel
theorem dX0_turnOf_14 : decode cX0_turnOf 14 = .ok (.getfield 9, 3) := by decide +kernel
theorem dX0_turnOf_17 : decode cX0_turnOf 17 = .ok (.if_icmp .ge 20, 3) := by decide +kernel
theorem dX0_turnOf_20 : decode cX0_turnOf 20 = .ok (.aload_n 0, 1) := by decide +kernel
theorem dX0_turnOf_21 : decode cX0_turnOf 21 = .ok (.getfield 25, 3) := by decide +kernel
theorem dX0_turnOf_24 : decode cX0_turnOf 24 = .ok (.iload_n 2, 1) := by decide +kernel
theorem dX0_turnOf_25 : decode cX0_turnOf 25 = .ok (.aload_n 0, 1) := by decide +kernel
theorem dX0_turnOf_26 : decode cX0_turnOf 26 = .ok (.iload_n 2, 1) := by decide +kernel
theorem dX0_turnOf_27 : decode cX0_turnOf 27 = .ok (.invokevirtual 50, 3) := by decide +kernel
theorem dX0_turnOf_30 : decode cX0_turnOf 30 = .ok (.iastore, 1) := by decide +kernel
theorem dX0_turnOf_31 : decode cX0_turnOf 31 = .ok (.iinc 2 1, 3) := by decide +kernel
theorem dX0_turnOf_34 : decode cX0_turnOf 34 = .ok (.goto (-22), 3) := by decide +kernel
theorem dX0_turnOf_37 : decode cX0_turnOf 37 = .ok (.aload_n 0, 1) := by decide +kernel
theorem dX0_turnOf_38 : decode cX0_turnOf 38 = .ok (.getfield 25, 3) := by decide +kernel
theorem dX0_turnOf_41 : decode cX0_turnOf 41 = .ok (.aload_n 0, 1) := by decide +kernel
theorem dX0_turnOf_42 : decode cX0_turnOf 42 = .ok (.getfield 9, 3) := by decide +kernel
theorem dX0_turnOf_45 : decode cX0_turnOf 45 = .ok (.invokestatic 54, 3) := by decide +kernel
theorem dX0_turnOf_48 : decode cX0_turnOf 48 = .ok (.iload_n 1, 1) := by decide +kernel
theorem dX0_turnOf_49 : decode cX0_turnOf 49 = .ok (.iconst 2, 1) := by decide +kernel
theorem dX0_turnOf_50 : decode cX0_turnOf 50 = .ok (.if_icmp .ne 15, 3) := by decide +kernel
theorem dX0_turnOf_53 : decode cX0_turnOf 53 = .ok (.aload_n 0, 1) := by decide +kernel
theorem dX0_turnOf_54 : decode cX0_turnOf 54 = .ok (.getfield 25, 3) := by decide +kernel
theorem dX0_turnOf_57 : decode cX0_turnOf 57 = .ok (.aload_n 0, 1) := by decide +kernel
theorem dX0_turnOf_58 : decode cX0_turnOf 58 = .ok (.getfield 9, 3) := by decide +kernel
theorem dX0_turnOf_61 : decode cX0_turnOf 61 = .ok (.iconst 1, 1) := by decide +kernel
theorem dX0_turnOf_62 : decode cX0_turnOf 62 = .ok (.isub, 1) := by decide +kernel
theorem dX0_turnOf_63 : decode cX0_turnOf 63 = .ok (.iaload, 1) := by decide +kernel
theorem dX0_turnOf_64 : decode cX0_turnOf 64 = .ok (.ireturn, 1) := by decide +kernel
theorem dX0_turnOf_65 : decode cX0_turnOf 65 = .ok (.iload_n 1, 1) := by decide +kernel
theorem dX0_turnOf_66 : decode cX0_turnOf 66 = .ok (.iconst 1, 1) := by decide +kernel
theorem dX0_turnOf_67 : decode cX0_turnOf 67 = .ok (.if_icmp .ne 12, 3) := by decide +kernel
theorem dX0_turnOf_70 : decode cX0_turnOf 70 = .ok (.aload_n 0, 1) := by decide +kernel
theorem dX0_turnOf_71 : decode cX0_turnOf 71 = .ok (.getfield 25, 3) := by decide +kernel
theorem dX0_turnOf_74 : decode cX0_turnOf 74 = .ok (.iconst 1, 1) := by decide +kernel
theorem dX0_turnOf_75 : decode cX0_turnOf 75 = .ok (.iaload, 1) := by decide +kernel
theorem dX0_turnOf_76 : decode cX0_turnOf 76 = .ok (.goto 9, 3) := by decide +kernel
theorem dX0_turnOf_79 : decode cX0_turnOf 79 = .ok (.aload_n 0, 1) := by decide +kernel
theorem dX0_turnOf_80 : decode cX0_turnOf 80 = .ok (.getfield 25, 3) := by decide +kernel
theorem dX0_turnOf_83 : decode cX0_turnOf 83 = .ok (.iconst 0, 1) := by decide +kernel
theorem dX0_turnOf_84 : decode cX0_turnOf 84 = .ok (.iaload, 1) := by decide +kernel
theorem dX0_turnOf_85 : decode cX0_turnOf 85 = .ok (.ireturn, 1) := by decide +kernel
theorem dX0_lackOf_0 : decode cX0_lackOf 0 = .ok (.aload_n 0, 1) := by decide +kernel
theorem dX0_lackOf_1 : decode cX0_lackOf 1 = .ok (.iload_n 1, 1) := by decide +kernel
theorem dX0_lackOf_2 : decode cX0_lackOf 2 = .ok (.invokevirtual 46, 3) := by decide +kernel
theorem dX0_lackOf_5 : decode cX0_lackOf 5 = .ok (.ifCond .ne 5, 3) := by decide +kernel
theorem dX0_lackOf_8 : decode cX0_lackOf 8 = .ok (.iconst (-1), 1) := by decide +kernel
theorem dX0_lackOf_9 : decode cX0_lackOf 9 = .ok (.ireturn, 1) := by decide +kernel
theorem dX0_lackOf_10 : decode cX0_lackOf 10 = .ok (.iconst 0, 1) := by decide +kernel
theorem dX0_lackOf_11 : decode cX0_lackOf 11 = .ok (.istore_n 3, 1) := by decide +kernel
theorem dX0_lackOf_12 : decode cX0_lackOf 12 = .ok (.iload_n 3, 1) := by decide +kernel
theorem dX0_lackOf_13 : decode cX0_lackOf 13 = .ok (.aload_n 0, 1) := by decide +kernel
theorem dX0_lackOf_14 : decode cX0_lackOf 14 = .ok (.getfield 9, 3) := by decide +kernel
theorem dX0_lackOf_17 : decode cX0_lackOf 17 = .ok (.if_icmp .ge 21, 3) := by decide +kernel
theorem dX0_lackOf_20 : decode cX0_lackOf 20 = .ok (.aload_n 0, 1) := by decide +kernel
theorem dX0_lackOf_21 : decode cX0_lackOf 21 = .ok (.getfield 25, 3) := by decide +kernel
theorem dX0_lackOf_24 : decode cX0_lackOf 24 = .ok (.iload_n 3, 1) := by decide +kernel
theorem dX0_lackOf_25 : decode cX0_lackOf 25 = .ok (.aload_n 0, 1) := by decide +kernel
theorem dX0_lackOf_26 : decode cX0_lackOf 26 = .ok (.iload_n 3, 1) := by decide +kernel
theorem dX0_lackOf_27 : decode cX0_lackOf 27 = .ok (.iload_n 2, 1) := by decide +kernel
theorem dX0_lackOf_28 : decode cX0_lackOf 28 = .ok (.invokevirtual 58, 3) := by decide +kernel
theorem dX0_lackOf_31 : decode cX0_lackOf 31 = .ok (.iastore, 1) := by decide +kernel
theorem dX0_lackOf_32 : decode cX0_lackOf 32 = .ok (.iinc 3 1, 3) := by decide +kernel
theorem dX0_lackOf_35 : decode cX0_lackOf 35 = .ok (.goto (-23), 3) := by decide +kernel
theorem dX0_lackOf_38 : decode cX0_lackOf 38 = .ok (.aload_n 0, 1) := by decide +kernel
theorem dX0_lackOf_39 : decode cX0_lackOf 39 = .ok (.getfield 25, 3) := by decide +kernel
theorem dX0_lackOf_42 : decode cX0_lackOf 42 = .ok (.aload_n 0, 1) := by decide +kernel
theorem dX0_lackOf_43 : decode cX0_lackOf 43 = .ok (.getfield 9, 3) := by decide +kernel
theorem dX0_lackOf_46 : decode cX0_lackOf 46 = .ok (.invokestatic 54, 3) := by decide +kernel
theorem dX0_lackOf_49 : decode cX0_lackOf 49 = .ok (.iload_n 1, 1) := by decide +kernel
theorem dX0_lackOf_50 : decode cX0_lackOf 50 = .ok (.iconst 2, 1) := by decide +kernel
theorem dX0_lackOf_51 : decode cX0_lackOf 51 = .ok (.if_icmp .ne 10, 3) := by decide +kernel
theorem dX0_lackOf_54 : decode cX0_lackOf 54 = .ok (.aload_n 0, 1) := by decide +kernel
theorem dX0_lackOf_55 : decode cX0_lackOf 55 = .ok (.getfield 9, 3) := by decide +kernel
theorem dX0_lackOf_58 : decode cX0_lackOf 58 = .ok (.goto 6, 3) := by decide +kernel
theorem dX0_lackOf_61 : decode cX0_lackOf 61 = .ok (.iload_n 1, 1) := by decide +kernel
theorem dX0_lackOf_62 : decode cX0_lackOf 62 = .ok (.iconst 1, 1) := by decide +kernel
theorem dX0_lackOf_63 : decode cX0_lackOf 63 = .ok (.iadd, 1) := by decide +kernel
theorem dX0_lackOf_64 : decode cX0_lackOf 64 = .ok (.istore_n 3, 1) := by decide +kernel
theorem dX0_lackOf_65 : decode cX0_lackOf 65 = .ok (.iconst 0, 1) := by decide +kernel
theorem dX0_lackOf_66 : decode cX0_lackOf 66 = .ok (.istore 4, 2) := by decide +kernel
theorem dX0_lackOf_68 : decode cX0_lackOf 68 = .ok (.iconst 0, 1) := by decide +kernel
theorem dX0_lackOf_69 : decode cX0_lackOf 69 = .ok (.istore 5, 2) := by decide +kernel
theorem dX0_lackOf_71 : decode cX0_lackOf 71 = .ok (.iload 5, 2) := by decide +kernel
theorem dX0_lackOf_73 : decode cX0_lackOf 73 = .ok (.iload_n 3, 1) := by decide +kernel
theorem dX0_lackOf_74 : decode cX0_lackOf 74 = .ok (.if_icmp .ge 21, 3) := by decide +kernel
theorem dX0_lackOf_77 : decode cX0_lackOf 77 = .ok (.iload 4, 2) := by decide +kernel
theorem dX0_lackOf_79 : decode cX0_lackOf 79 = .ok (.aload_n 0, 1) := by decide +kernel
theorem dX0_lackOf_80 : decode cX0_lackOf 80 = .ok (.getfield 25, 3) := by decide +kernel
theorem dX0_lackOf_83 : decode cX0_lackOf 83 = .ok (.iload 5, 2) := by decide +kernel
theorem dX0_lackOf_85 : decode cX0_lackOf 85 = .ok (.iaload, 1) := by decide +kernel
theorem dX0_lackOf_86 : decode cX0_lackOf 86 = .ok (.iadd, 1) := by decide +kernel
theorem dX0_lackOf_87 : decode cX0_lackOf 87 = .ok (.istore 4, 2) := by decide +kernel
theorem dX0_lackOf_89 : decode cX0_lackOf 89 = .ok (.iinc 5 1, 3) := by decide +kernel
theorem dX0_lackOf_92 : decode cX0_lackOf 92 = .ok (.goto (-21), 3) := by decide +kernel
theorem dX0_lackOf_95 : decode cX0_lackOf 95 = .ok (.iload 4, 2) := by decide +kernel
theorem dX0_lackOf_97 : decode cX0_lackOf 97 = .ok (.ireturn, 1) := by decide +kernel
theorem dX0_fullRowsBy_0 : decode cX0_fullRowsBy 0 = .ok (.iconst 0, 1) := by decide +kernel
theorem dX0_fullRowsBy_1 : decode cX0_fullRowsBy 1 = .ok (.istore_n 2, 1) := by decide +kernel
theorem dX0_fullRowsBy_2 : decode cX0_fullRowsBy 2 = .ok (.iconst 0, 1) := by decide +kernel
theorem dX0_fullRowsBy_3 : decode cX0_fullRowsBy 3 = .ok (.istore_n 3, 1) := by decide +kernel
theorem dX0_fullRowsBy_4 : decode cX0_fullRowsBy 4 = .ok (.iload_n 3, 1) := by decide +kernel
theorem dX0_fullRowsBy_5 : decode cX0_fullRowsBy 5 = .ok (.aload_n 0, 1) := by decide +kernel
theorem dX0_fullRowsBy_6 : decode cX0_fullRowsBy 6 = .ok (.getfield 9, 3) := by decide +kernel
theorem dX0_fullRowsBy_9 : decode cX0_fullRowsBy 9 = .ok (.if_icmp .ge 21, 3) := by decide +kernel
theorem dX0_fullRowsBy_12 : decode cX0_fullRowsBy 12 = .ok (.aload_n 0, 1) := by decide +kernel
theorem dX0_fullRowsBy_13 : decode cX0_fullRowsBy 13 = .ok (.iload_n 3, 1) := by decide +kernel
theorem dX0_fullRowsBy_14 : decode cX0_fullRowsBy 14 = .ok (.iload_n 1, 1) := by decide +kernel
theorem dX0_fullRowsBy_15 : decode cX0_fullRowsBy 15 = .ok (.invokevirtual 58, 3) := by decide +kernel
theorem dX0_fullRowsBy_18 : decode cX0_fullRowsBy 18 = .ok (.ifCond .ne 6, 3) := by decide +kernel
theorem dX0_fullRowsBy_21 : decode cX0_fullRowsBy 21 = .ok (.iinc 2 1, 3) := by decide +kernel
theorem dX0_fullRowsBy_24 : decode cX0_fullRowsBy 24 = .ok (.iinc 3 1, 3) := by decide +kernel
theorem dX0_fullRowsBy_27 : decode cX0_fullRowsBy 27 = .ok (.goto (-23), 3) := by decide +kernel
theorem dX0_fullRowsBy_30 : decode cX0_fullRowsBy 30 = .ok (.iload_n 2, 1) := by decide +kernel
theorem dX0_fullRowsBy_31 : decode cX0_fullRowsBy 31 = .ok (.ireturn, 1) := by decide +kernel
theorem dX0_daubedBy_0 : decode cX0_daubedBy 0 = .ok (.aload_n 0, 1) := by decide +kernel
theorem dX0_daubedBy_1 : decode cX0_daubedBy 1 = .ok (.getfield 9, 3) := by decide +kernel
theorem dX0_daubedBy_4 : decode cX0_daubedBy 4 = .ok (.aload_n 0, 1) := by decide +kernel
theorem dX0_daubedBy_5 : decode cX0_daubedBy 5 = .ok (.getfield 18, 3) := by decide +kernel
theorem dX0_daubedBy_8 : decode cX0_daubedBy 8 = .ok (.imul, 1) := by decide +kernel
theorem dX0_daubedBy_9 : decode cX0_daubedBy 9 = .ok (.istore_n 2, 1) := by decide +kernel
theorem dX0_daubedBy_10 : decode cX0_daubedBy 10 = .ok (.iconst 0, 1) := by decide +kernel
theorem dX0_daubedBy_11 : decode cX0_daubedBy 11 = .ok (.istore_n 3, 1) := by decide +kernel
theorem dX0_daubedBy_12 : decode cX0_daubedBy 12 = .ok (.iload_n 3, 1) := by decide +kernel
theorem dX0_daubedBy_13 : decode cX0_daubedBy 13 = .ok (.aload_n 0, 1) := by decide +kernel
theorem dX0_daubedBy_14 : decode cX0_daubedBy 14 = .ok (.getfield 9, 3) := by decide +kernel
theorem dX0_daubedBy_17 : decode cX0_daubedBy 17 = .ok (.if_icmp .ge 18, 3) := by decide +kernel
theorem dX0_daubedBy_20 : decode cX0_daubedBy 20 = .ok (.iload_n 2, 1) := by decide +kernel
theorem dX0_daubedBy_21 : decode cX0_daubedBy 21 = .ok (.aload_n 0, 1) := by decide +kernel
theorem dX0_daubedBy_22 : decode cX0_daubedBy 22 = .ok (.iload_n 3, 1) := by decide +kernel
theorem dX0_daubedBy_23 : decode cX0_daubedBy 23 = .ok (.iload_n 1, 1) := by decide +kernel
theorem dX0_daubedBy_24 : decode cX0_daubedBy 24 = .ok (.invokevirtual 58, 3) := by decide +kernel
theorem dX0_daubedBy_27 : decode cX0_daubedBy 27 = .ok (.isub, 1) := by decide +kernel
theorem dX0_daubedBy_28 : decode cX0_daubedBy 28 = .ok (.istore_n 2, 1) := by decide +kernel
theorem dX0_daubedBy_29 : decode cX0_daubedBy 29 = .ok (.iinc 3 1, 3) := by decide +kernel
theorem dX0_daubedBy_32 : decode cX0_daubedBy 32 = .ok (.goto (-20), 3) := by decide +kernel
theorem dX0_daubedBy_35 : decode cX0_daubedBy 35 = .ok (.iload_n 2, 1) := by decide +kernel
theorem dX0_daubedBy_36 : decode cX0_daubedBy 36 = .ok (.ireturn, 1) := by decide +kernel
theorem dX0_endsTurn_0 : decode cX0_endsTurn 0 = .ok (.iconst 0, 1) := by decide +kernel
theorem dX0_endsTurn_1 : decode cX0_endsTurn 1 = .ok (.istore_n 2, 1) := by decide +kernel
theorem dX0_endsTurn_2 : decode cX0_endsTurn 2 = .ok (.iconst 0, 1) := by decide +kernel
theorem dX0_endsTurn_3 : decode cX0_endsTurn 3 = .ok (.istore_n 3, 1) := by decide +kernel
theorem dX0_endsTurn_4 : decode cX0_endsTurn 4 = .ok (.iconst 0, 1) := by decide +kernel
theorem dX0_endsTurn_5 : decode cX0_endsTurn 5 = .ok (.istore 4, 2) := by decide +kernel
theorem dX0_endsTurn_7 : decode cX0_endsTurn 7 = .ok (.iload 4, 2) := by decide +kernel
theorem dX0_endsTurn_9 : decode cX0_endsTurn 9 = .ok (.aload_n 0, 1) := by decide +kernel
theorem dX0_endsTurn_10 : decode cX0_endsTurn 10 = .ok (.getfield 15, 3) := by decide +kernel
theorem dX0_endsTurn_13 : decode cX0_endsTurn 13 = .ok (.if_icmp .ge 37, 3) := by decide +kernel
theorem dX0_endsTurn_16 : decode cX0_endsTurn 16 = .ok (.aload_n 0, 1) := by decide +kernel
theorem dX0_endsTurn_17 : decode cX0_endsTurn 17 = .ok (.iload_n 1, 1) := by decide +kernel
theorem dX0_endsTurn_18 : decode cX0_endsTurn 18 = .ok (.iload 4, 2) := by decide +kernel
theorem dX0_endsTurn_20 : decode cX0_endsTurn 20 = .ok (.invokevirtual 37, 3) := by decide +kernel
theorem dX0_endsTurn_23 : decode cX0_endsTurn 23 = .ok (.istore 5, 2) := by decide +kernel
theorem dX0_endsTurn_25 : decode cX0_endsTurn 25 = .ok (.iload 5, 2) := by decide +kernel
theorem dX0_endsTurn_27 : decode cX0_endsTurn 27 = .ok (.ifCond .le 17, 3) := by decide +kernel
theorem dX0_endsTurn_30 : decode cX0_endsTurn 30 = .ok (.iload_n 2, 1) := by decide +kernel
theorem dX0_endsTurn_31 : decode cX0_endsTurn 31 = .ok (.ifCond .ne 8, 3) := by decide +kernel
theorem dX0_endsTurn_34 : decode cX0_endsTurn 34 = .ok (.iload 5, 2) := by decide +kernel
theorem dX0_endsTurn_36 : decode cX0_endsTurn 36 = .ok (.goto 4, 3) := by decide +kernel
theorem dX0_endsTurn_39 : decode cX0_endsTurn 39 = .ok (.iload_n 2, 1) := by decide +kernel
theorem dX0_endsTurn_40 : decode cX0_endsTurn 40 = .ok (.istore_n 2, 1) := by decide +kernel
theorem dX0_endsTurn_41 : decode cX0_endsTurn 41 = .ok (.iload 5, 2) := by decide +kernel
theorem dX0_endsTurn_43 : decode cX0_endsTurn 43 = .ok (.istore_n 3, 1) := by decide +kernel
theorem dX0_endsTurn_44 : decode cX0_endsTurn 44 = .ok (.iinc 4 1, 3) := by decide +kernel
theorem dX0_endsTurn_47 : decode cX0_endsTurn 47 = .ok (.goto (-40), 3) := by decide +kernel
theorem dX0_endsTurn_50 : decode cX0_endsTurn 50 = .ok (.iload_n 2, 1) := by decide +kernel
theorem dX0_endsTurn_51 : decode cX0_endsTurn 51 = .ok (.iload_n 3, 1) := by decide +kernel
theorem dX0_endsTurn_52 : decode cX0_endsTurn 52 = .ok (.invokestatic 41, 3) := by decide +kernel
theorem dX0_endsTurn_55 : decode cX0_endsTurn 55 = .ok (.ireturn, 1) := by decide +kernel
theorem dX1_choose_0 : decode cX1_choose 0 = .ok (.iload_n 1, 1) := by decide +kernel
theorem dX1_choose_1 : decode cX1_choose 1 = .ok (.ifCond .lt 8, 3) := by decide +kernel
theorem dX1_choose_4 : decode cX1_choose 4 = .ok (.iload_n 1, 1) := by decide +kernel
theorem dX1_choose_5 : decode cX1_choose 5 = .ok (.iload_n 0, 1) := by decide +kernel
theorem dX1_choose_6 : decode cX1_choose 6 = .ok (.if_icmp .le 5, 3) := by decide +kernel
theorem dX1_choose_9 : decode cX1_choose 9 = .ok (.lconst 0, 1) := by decide +kernel
theorem dX1_choose_10 : decode cX1_choose 10 = .ok (.lreturn, 1) := by decide +kernel
theorem dX1_choose_11 : decode cX1_choose 11 = .ok (.lconst 1, 1) := by decide +kernel
theorem dX1_choose_12 : decode cX1_choose 12 = .ok (.lstore_n 2, 1) := by decide +kernel
theorem dX1_choose_13 : decode cX1_choose 13 = .ok (.iconst 0, 1) := by decide +kernel
theorem dX1_choose_14 : decode cX1_choose 14 = .ok (.istore 4, 2) := by decide +kernel
theorem dX1_choose_16 : decode cX1_choose 16 = .ok (.iload 4, 2) := by decide +kernel
theorem dX1_choose_18 : decode cX1_choose 18 = .ok (.iload_n 1, 1) := by decide +kernel
theorem dX1_choose_19 : decode cX1_choose 19 = .ok (.if_icmp .ge 23, 3) := by decide +kernel
theorem dX1_choose_22 : decode cX1_choose 22 = .ok (.lload_n 2, 1) := by decide +kernel
theorem dX1_choose_23 : decode cX1_choose 23 = .ok (.iload_n 0, 1) := by decide +kernel
theorem dX1_choose_24 : decode cX1_choose 24 = .ok (.iload 4, 2) := by decide +kernel
theorem dX1_choose_26 : decode cX1_choose 26 = .ok (.isub, 1) := by decide +kernel
theorem dX1_choose_27 : decode cX1_choose 27 = .ok (.i2l, 1) := by decide +kernel
theorem dX1_choose_28 : decode cX1_choose 28 = .ok (.lmul, 1) := by decide +kernel
theorem dX1_choose_29 : decode cX1_choose 29 = .ok (.iload 4, 2) := by decide +kernel
theorem dX1_choose_31 : decode cX1_choose 31 = .ok (.iconst 1, 1) := by decide +kernel
theorem dX1_choose_32 : decode cX1_choose 32 = .ok (.iadd, 1) := by decide +kernel
theorem dX1_choose_33 : decode cX1_choose 33 = .ok (.i2l, 1) := by decide +kernel
theorem dX1_choose_34 : decode cX1_choose 34 = .ok (.ldiv, 1) := by decide +kernel
theorem dX1_choose_35 : decode cX1_choose 35 = .ok (.lstore_n 2, 1) := by decide +kernel
theorem dX1_choose_36 : decode cX1_choose 36 = .ok (.iinc 4 1, 3) := by decide +kernel
theorem dX1_choose_39 : decode cX1_choose 39 = .ok (.goto (-23), 3) := by decide +kernel
theorem dX1_choose_42 : decode cX1_choose 42 = .ok (.lload_n 2, 1) := by decide +kernel
theorem dX1_choose_43 : decode cX1_choose 43 = .ok (.lreturn, 1) := by decide +kernel
theorem dX1_drawsWith_0 : decode cX1_drawsWith 0 = .ok (.lconst 0, 1) := by decide +kernel
theorem dX1_drawsWith_1 : decode cX1_drawsWith 1 = .ok (.lstore 5, 2) := by decide +kernel
theorem dX1_drawsWith_3 : decode cX1_drawsWith 3 = .ok (.iload 4, 2) := by decide +kernel
theorem dX1_drawsWith_5 : decode cX1_drawsWith 5 = .ok (.istore 7, 2) := by decide +kernel
theorem dX1_drawsWith_7 : decode cX1_drawsWith 7 = .ok (.iload 7, 2) := by decide +kernel
theorem dX1_drawsWith_9 : decode cX1_drawsWith 9 = .ok (.iload_n 2, 1) := by decide +kernel
theorem dX1_drawsWith_10 : decode cX1_drawsWith 10 = .ok (.if_icmp .gt 72, 3) := by decide +kernel
theorem dX1_drawsWith_13 : decode cX1_drawsWith 13 = .ok (.iload_n 2, 1) := by decide +kernel
theorem dX1_drawsWith_14 : decode cX1_drawsWith 14 = .ok (.iload 7, 2) := by decide +kernel
theorem dX1_drawsWith_16 : decode cX1_drawsWith 16 = .ok (.invokestatic 7, 3) := by decide +kernel
theorem dX1_drawsWith_19 : decode cX1_drawsWith 19 = .ok (.iload_n 0, 1) := by decide +kernel
theorem dX1_drawsWith_20 : decode cX1_drawsWith 20 = .ok (.iload 7, 2) := by decide +kernel
theorem dX1_drawsWith_22 : decode cX1_drawsWith 22 = .ok (.iload_n 3, 1) := by decide +kernel
theorem dX1_drawsWith_23 : decode cX1_drawsWith 23 = .ok (.imul, 1) := by decide +kernel
theorem dX1_drawsWith_24 : decode cX1_drawsWith 24 = .ok (.isub, 1) := by decide +kernel
theorem dX1_drawsWith_25 : decode cX1_drawsWith 25 = .ok (.iload_n 1, 1) := by decide +kernel
theorem dX1_drawsWith_26 : decode cX1_drawsWith 26 = .ok (.iload 7, 2) := by decide +kernel
theorem dX1_drawsWith_28 : decode cX1_drawsWith 28 = .ok (.iload_n 3, 1) := by decide +kernel
theorem dX1_drawsWith_29 : decode cX1_drawsWith 29 = .ok (.imul, 1) := by decide +kernel
theorem dX1_drawsWith_30 : decode cX1_drawsWith 30 = .ok (.isub, 1) := by decide +kernel
theorem dX1_drawsWith_31 : decode cX1_drawsWith 31 = .ok (.invokestatic 7, 3) := by decide +kernel
theorem dX1_drawsWith_34 : decode cX1_drawsWith 34 = .ok (.lmul, 1) := by decide +kernel
theorem dX1_drawsWith_35 : decode cX1_drawsWith 35 = .ok (.lstore 8, 2) := by decide +kernel
theorem dX1_drawsWith_37 : decode cX1_drawsWith 37 = .ok (.iload 7, 2) := by decide +kernel
theorem dX1_drawsWith_39 : decode cX1_drawsWith 39 = .ok (.iconst 1, 1) := by decide +kernel
theorem dX1_drawsWith_40 : decode cX1_drawsWith 40 = .ok (.isub, 1) := by decide +kernel
theorem dX1_drawsWith_41 : decode cX1_drawsWith 41 = .ok (.iload 4, 2) := by decide +kernel
theorem dX1_drawsWith_43 : decode cX1_drawsWith 43 = .ok (.iconst 1, 1) := by decide +kernel
theorem dX1_drawsWith_44 : decode cX1_drawsWith 44 = .ok (.isub, 1) := by decide +kernel
theorem dX1_drawsWith_45 : decode cX1_drawsWith 45 = .ok (.invokestatic 7, 3) := by decide +kernel
theorem dX1_drawsWith_48 : decode cX1_drawsWith 48 = .ok (.lload 8, 2) := by decide +kernel
theorem dX1_drawsWith_50 : decode cX1_drawsWith 50 = .ok (.lmul, 1) := by decide +kernel
theorem dX1_drawsWith_51 : decode cX1_drawsWith 51 = .ok (.lstore 10, 2) := by decide +kernel
theorem dX1_drawsWith_53 : decode cX1_drawsWith 53 = .ok (.lload 5, 2) := by decide +kernel
theorem dX1_drawsWith_55 : decode cX1_drawsWith 55 = .ok (.iload 7, 2) := by decide +kernel
theorem dX1_drawsWith_57 : decode cX1_drawsWith 57 = .ok (.iload 4, 2) := by decide +kernel
theorem dX1_drawsWith_59 : decode cX1_drawsWith 59 = .ok (.isub, 1) := by decide +kernel
theorem dX1_drawsWith_60 : decode cX1_drawsWith 60 = .ok (.iconst 2, 1) := by decide +kernel
theorem dX1_drawsWith_61 : decode cX1_drawsWith 61 = .ok (.irem, 1) := by decide +kernel
theorem dX1_drawsWith_62 : decode cX1_drawsWith 62 = .ok (.ifCond .ne 8, 3) := by decide +kernel
theorem dX1_drawsWith_65 : decode cX1_drawsWith 65 = .ok (.lload 10, 2) := by decide +kernel
theorem dX1_drawsWith_67 : decode cX1_drawsWith 67 = .ok (.goto 6, 3) := by decide +kernel
theorem dX1_drawsWith_70 : decode cX1_drawsWith 70 = .ok (.lload 10, 2) := by decide +kernel
theorem dX1_drawsWith_72 : decode cX1_drawsWith 72 = .ok (.lneg, 1) := by decide +kernel
theorem dX1_drawsWith_73 : decode cX1_drawsWith 73 = .ok (.ladd, 1) := by decide +kernel
theorem dX1_drawsWith_74 : decode cX1_drawsWith 74 = .ok (.lstore 5, 2) := by decide +kernel
theorem dX1_drawsWith_76 : decode cX1_drawsWith 76 = .ok (.iinc 7 1, 3) := by decide +kernel
theorem dX1_drawsWith_79 : decode cX1_drawsWith 79 = .ok (.goto (-72), 3) := by decide +kernel
theorem dX1_drawsWith_82 : decode cX1_drawsWith 82 = .ok (.lload 5, 2) := by decide +kernel
theorem dX1_drawsWith_84 : decode cX1_drawsWith 84 = .ok (.lreturn, 1) := by decide +kernel
theorem dX1_told_0 : decode cX1_told 0 = .ok (.lload_n 0, 1) := by decide +kernel
theorem dX1_told_1 : decode cX1_told 1 = .ok (.lload_n 2, 1) := by decide +kernel
theorem dX1_told_2 : decode cX1_told 2 = .ok (.invokestatic 13, 3) := by decide +kernel
theorem dX1_told_5 : decode cX1_told 5 = .ok (.lstore 5, 2) := by decide +kernel
theorem dX1_told_7 : decode cX1_told 7 = .ok (.lload 5, 2) := by decide +kernel
theorem dX1_told_9 : decode cX1_told 9 = .ok (.lconst 1, 1) := by decide +kernel
theorem dX1_told_10 : decode cX1_told 10 = .ok (.lcmp, 1) := by decide +kernel
theorem dX1_told_11 : decode cX1_told 11 = .ok (.ifCond .ge 5, 3) := by decide +kernel
theorem dX1_told_14 : decode cX1_told 14 = .ok (.lconst 0, 1) := by decide +kernel
theorem dX1_told_15 : decode cX1_told 15 = .ok (.lreturn, 1) := by decide +kernel
theorem dX1_told_16 : decode cX1_told 16 = .ok (.iload 4, 2) := by decide +kernel
theorem dX1_told_18 : decode cX1_told 18 = .ok (.ifCond .ne 10, 3) := by decide +kernel
theorem dX1_told_21 : decode cX1_told 21 = .ok (.lload_n 0, 1) := by decide +kernel
theorem dX1_told_22 : decode cX1_told 22 = .ok (.lload 5, 2) := by decide +kernel
theorem dX1_told_24 : decode cX1_told 24 = .ok (.ldiv, 1) := by decide +kernel
theorem dX1_told_25 : decode cX1_told 25 = .ok (.goto 7, 3) := by decide +kernel
theorem dX1_told_28 : decode cX1_told 28 = .ok (.lload_n 2, 1) := by decide +kernel
theorem dX1_told_29 : decode cX1_told 29 = .ok (.lload 5, 2) := by decide +kernel
theorem dX1_told_31 : decode cX1_told 31 = .ok (.ldiv, 1) := by decide +kernel
theorem dX1_told_32 : decode cX1_told 32 = .ok (.lreturn, 1) := by decide +kernel
theorem dX1_commonDivisor_0 : decode cX1_commonDivisor 0 = .ok (.lload_n 0, 1) := by decide +kernel
theorem dX1_commonDivisor_1 : decode cX1_commonDivisor 1 = .ok (.lstore 4, 2) := by decide +kernel
theorem dX1_commonDivisor_3 : decode cX1_commonDivisor 3 = .ok (.lload_n 2, 1) := by decide +kernel
theorem dX1_commonDivisor_4 : decode cX1_commonDivisor 4 = .ok (.lstore 6, 2) := by decide +kernel
theorem dX1_commonDivisor_6 : decode cX1_commonDivisor 6 = .ok (.iconst 0, 1) := by decide +kernel
theorem dX1_commonDivisor_7 : decode cX1_commonDivisor 7 = .ok (.istore 8, 2) := by decide +kernel
theorem dX1_commonDivisor_9 : decode cX1_commonDivisor 9 = .ok (.iload 8, 2) := by decide +kernel
theorem dX1_commonDivisor_11 : decode cX1_commonDivisor 11 = .ok (.sipush 1000, 3) := by decide +kernel
theorem dX1_commonDivisor_14 : decode cX1_commonDivisor 14 = .ok (.if_icmp .ge 31, 3) := by decide +kernel
theorem dX1_commonDivisor_17 : decode cX1_commonDivisor 17 = .ok (.lload 6, 2) := by decide +kernel
theorem dX1_commonDivisor_19 : decode cX1_commonDivisor 19 = .ok (.lconst 0, 1) := by decide +kernel
theorem dX1_commonDivisor_20 : decode cX1_commonDivisor 20 = .ok (.lcmp, 1) := by decide +kernel
theorem dX1_commonDivisor_21 : decode cX1_commonDivisor 21 = .ok (.ifCond .eq 24, 3) := by decide +kernel
theorem dX1_commonDivisor_24 : decode cX1_commonDivisor 24 = .ok (.lload 4, 2) := by decide +kernel
theorem dX1_commonDivisor_26 : decode cX1_commonDivisor 26 = .ok (.lload 6, 2) := by decide +kernel
theorem dX1_commonDivisor_28 : decode cX1_commonDivisor 28 = .ok (.lrem, 1) := by decide +kernel
theorem dX1_commonDivisor_29 : decode cX1_commonDivisor 29 = .ok (.lstore 9, 2) := by decide +kernel
theorem dX1_commonDivisor_31 : decode cX1_commonDivisor 31 = .ok (.lload 6, 2) := by decide +kernel
theorem dX1_commonDivisor_33 : decode cX1_commonDivisor 33 = .ok (.lstore 4, 2) := by decide +kernel
theorem dX1_commonDivisor_35 : decode cX1_commonDivisor 35 = .ok (.lload 9, 2) := by decide +kernel
theorem dX1_commonDivisor_37 : decode cX1_commonDivisor 37 = .ok (.lstore 6, 2) := by decide +kernel
theorem dX1_commonDivisor_39 : decode cX1_commonDivisor 39 = .ok (.iinc 8 1, 3) := by decide +kernel
theorem dX1_commonDivisor_42 : decode cX1_commonDivisor 42 = .ok (.goto (-33), 3) := by decide +kernel
theorem dX1_commonDivisor_45 : decode cX1_commonDivisor 45 = .ok (.lload 4, 2) := by decide +kernel
theorem dX1_commonDivisor_47 : decode cX1_commonDivisor 47 = .ok (.lreturn, 1) := by decide +kernel
theorem dX2_init_0 : decode cX2_init 0 = .ok (.aload_n 0, 1) := by decide +kernel
theorem dX2_init_1 : decode cX2_init 1 = .ok (.invokespecial 3, 3) := by decide +kernel
theorem dX2_init_4 : decode cX2_init 4 = .ok (.aload_n 0, 1) := by decide +kernel
theorem dX2_init_5 : decode cX2_init 5 = .ok (.new 9, 3) := by decide +kernel
theorem dX2_init_8 : decode cX2_init 8 = .ok (.dup, 1) := by decide +kernel
theorem dX2_init_9 : decode cX2_init 9 = .ok (.invokespecial 11, 3) := by decide +kernel
theorem dX2_init_12 : decode cX2_init 12 = .ok (.putfield 12, 3) := by decide +kernel
theorem dX2_init_15 : decode cX2_init 15 = .ok (.aload_n 0, 1) := by decide +kernel
theorem dX2_init_16 : decode cX2_init 16 = .ok (.iconst 3, 1) := by decide +kernel
theorem dX2_init_17 : decode cX2_init 17 = .ok (.newarray .int, 2) := by decide +kernel
theorem dX2_init_19 : decode cX2_init 19 = .ok (.putfield 18, 3) := by decide +kernel
theorem dX2_init_22 : decode cX2_init 22 = .ok (.aload_n 0, 1) := by decide +kernel
theorem dX2_init_23 : decode cX2_init 23 = .ok (.bipush 9, 2) := by decide +kernel
theorem dX2_init_25 : decode cX2_init 25 = .ok (.newarray .int, 2) := by decide +kernel
theorem dX2_init_27 : decode cX2_init 27 = .ok (.putfield 22, 3) := by decide +kernel
theorem dX2_init_30 : decode cX2_init 30 = .ok (.aload_n 0, 1) := by decide +kernel
theorem dX2_init_31 : decode cX2_init 31 = .ok (.bipush 15, 2) := by decide +kernel
theorem dX2_init_33 : decode cX2_init 33 = .ok (.newarray .int, 2) := by decide +kernel
theorem dX2_init_35 : decode cX2_init 35 = .ok (.putfield 25, 3) := by decide +kernel
theorem dX2_init_38 : decode cX2_init 38 = .ok (.aload_n 0, 1) := by decide +kernel
theorem dX2_init_39 : decode cX2_init 39 = .ok (.iconst 3, 1) := by decide +kernel
theorem dX2_init_40 : decode cX2_init 40 = .ok (.newarray .int, 2) := by decide +kernel
theorem dX2_init_42 : decode cX2_init 42 = .ok (.putfield 28, 3) := by decide +kernel
theorem dX2_init_45 : decode cX2_init 45 = .ok (.return_, 1) := by decide +kernel
theorem dX2_drawnPlan_0 : decode cX2_drawnPlan 0 = .ok (.aload_n 0, 1) := by decide +kernel
theorem dX2_drawnPlan_1 : decode cX2_drawnPlan 1 = .ok (.getfield 12, 3) := by decide +kernel
theorem dX2_drawnPlan_4 : decode cX2_drawnPlan 4 = .ok (.iload_n 2, 1) := by decide +kernel
theorem dX2_drawnPlan_5 : decode cX2_drawnPlan 5 = .ok (.invokevirtual 31, 3) := by decide +kernel
theorem dX2_drawnPlan_8 : decode cX2_drawnPlan 8 = .ok (.aload_n 0, 1) := by decide +kernel
theorem dX2_drawnPlan_9 : decode cX2_drawnPlan 9 = .ok (.getfield 12, 3) := by decide +kernel
theorem dX2_drawnPlan_12 : decode cX2_drawnPlan 12 = .ok (.aload_n 1, 1) := by decide +kernel
theorem dX2_drawnPlan_13 : decode cX2_drawnPlan 13 = .ok (.getfield 35, 3) := by decide +kernel
theorem dX2_drawnPlan_16 : decode cX2_drawnPlan 16 = .ok (.invokevirtual 41, 3) := by decide +kernel
theorem dX2_drawnPlan_19 : decode cX2_drawnPlan 19 = .ok (.ireturn, 1) := by decide +kernel
theorem dX2_planned_0 : decode cX2_planned 0 = .ok (.aload_n 1, 1) := by decide +kernel
theorem dX2_planned_1 : decode cX2_planned 1 = .ok (.iload_n 2, 1) := by decide +kernel
theorem dX2_planned_2 : decode cX2_planned 2 = .ok (.aload_n 0, 1) := by decide +kernel
theorem dX2_planned_3 : decode cX2_planned 3 = .ok (.getfield 18, 3) := by decide +kernel
theorem dX2_planned_6 : decode cX2_planned 6 = .ok (.invokevirtual 45, 3) := by decide +kernel
theorem dX2_planned_9 : decode cX2_planned 9 = .ok (.iload_n 3, 1) := by decide +kernel
theorem dX2_planned_10 : decode cX2_planned 10 = .ok (.ifCond .lt 8, 3) := by decide +kernel
theorem dX2_planned_13 : decode cX2_planned 13 = .ok (.iload_n 3, 1) := by decide +kernel
theorem dX2_planned_14 : decode cX2_planned 14 = .ok (.iconst 3, 1) := by decide +kernel
theorem dX2_planned_15 : decode cX2_planned 15 = .ok (.if_icmp .lt 7, 3) := by decide +kernel
theorem dX2_planned_18 : decode cX2_planned 18 = .ok (.iconst 0, 1) := by decide +kernel
theorem dX2_planned_19 : decode cX2_planned 19 = .ok (.goto 14, 3) := by decide +kernel
theorem dX2_planned_22 : decode cX2_planned 22 = .ok (.aload_n 0, 1) := by decide +kernel
theorem dX2_planned_23 : decode cX2_planned 23 = .ok (.getfield 18, 3) := by decide +kernel
theorem dX2_planned_26 : decode cX2_planned 26 = .ok (.iload_n 3, 1) := by decide +kernel
theorem dX2_planned_27 : decode cX2_planned 27 = .ok (.iaload, 1) := by decide +kernel
theorem dX2_planned_28 : decode cX2_planned 28 = .ok (.iload 4, 2) := by decide +kernel
theorem dX2_planned_30 : decode cX2_planned 30 = .ok (.invokestatic 49, 3) := by decide +kernel
theorem dX2_planned_33 : decode cX2_planned 33 = .ok (.ireturn, 1) := by decide +kernel
theorem dX2_deal_0 : decode cX2_deal 0 = .ok (.aload_n 3, 1) := by decide +kernel
theorem dX2_deal_1 : decode cX2_deal 1 = .ok (.iconst 0, 1) := by decide +kernel
theorem dX2_deal_2 : decode cX2_deal 2 = .ok (.invokestatic 55, 3) := by decide +kernel
theorem dX2_deal_5 : decode cX2_deal 5 = .ok (.aload_n 1, 1) := by decide +kernel
theorem dX2_deal_6 : decode cX2_deal 6 = .ok (.aload_n 0, 1) := by decide +kernel
theorem dX2_deal_7 : decode cX2_deal 7 = .ok (.aload_n 1, 1) := by decide +kernel
theorem dX2_deal_8 : decode cX2_deal 8 = .ok (.iload_n 2, 1) := by decide +kernel
theorem dX2_deal_9 : decode cX2_deal 9 = .ok (.invokevirtual 61, 3) := by decide +kernel
theorem dX2_deal_12 : decode cX2_deal 12 = .ok (.aload_n 0, 1) := by decide +kernel
theorem dX2_deal_13 : decode cX2_deal 13 = .ok (.getfield 18, 3) := by decide +kernel
theorem dX2_deal_16 : decode cX2_deal 16 = .ok (.invokevirtual 45, 3) := by decide +kernel
theorem dX2_deal_19 : decode cX2_deal 19 = .ok (.iconst 0, 1) := by decide +kernel
theorem dX2_deal_20 : decode cX2_deal 20 = .ok (.istore 4, 2) := by decide +kernel
theorem dX2_deal_22 : decode cX2_deal 22 = .ok (.iload 4, 2) := by decide +kernel
theorem dX2_deal_24 : decode cX2_deal 24 = .ok (.aload_n 1, 1) := by decide +kernel
theorem dX2_deal_25 : decode cX2_deal 25 = .ok (.getfield 65, 3) := by decide +kernel
theorem dX2_deal_28 : decode cX2_deal 28 = .ok (.if_icmp .ge 67, 3) := by decide +kernel
theorem dX2_deal_31 : decode cX2_deal 31 = .ok (.aload_n 1, 1) := by decide +kernel
theorem dX2_deal_32 : decode cX2_deal 32 = .ok (.getfield 68, 3) := by decide +kernel
theorem dX2_deal_35 : decode cX2_deal 35 = .ok (.aload_n 1, 1) := by decide +kernel
theorem dX2_deal_36 : decode cX2_deal 36 = .ok (.getfield 72, 3) := by decide +kernel
theorem dX2_deal_39 : decode cX2_deal 39 = .ok (.aload_n 0, 1) := by decide +kernel
theorem dX2_deal_40 : decode cX2_deal 40 = .ok (.getfield 18, 3) := by decide +kernel
theorem dX2_deal_43 : decode cX2_deal 43 = .ok (.iload 4, 2) := by decide +kernel
theorem dX2_deal_45 : decode cX2_deal 45 = .ok (.iaload, 1) := by decide +kernel
theorem dX2_deal_46 : decode cX2_deal 46 = .ok (.invokestatic 75, 3) := by decide +kernel
theorem dX2_deal_49 : decode cX2_deal 49 = .ok (.istore 5, 2) := by decide +kernel
theorem dX2_deal_51 : decode cX2_deal 51 = .ok (.aload_n 1, 1) := by decide +kernel
theorem dX2_deal_52 : decode cX2_deal 52 = .ok (.getfield 68, 3) := by decide +kernel
theorem dX2_deal_55 : decode cX2_deal 55 = .ok (.aload_n 1, 1) := by decide +kernel
theorem dX2_deal_56 : decode cX2_deal 56 = .ok (.getfield 72, 3) := by decide +kernel
theorem dX2_deal_59 : decode cX2_deal 59 = .ok (.aload_n 0, 1) := by decide +kernel
theorem dX2_deal_60 : decode cX2_deal 60 = .ok (.getfield 18, 3) := by decide +kernel
theorem dX2_deal_63 : decode cX2_deal 63 = .ok (.iload 4, 2) := by decide +kernel
theorem dX2_deal_65 : decode cX2_deal 65 = .ok (.iaload, 1) := by decide +kernel
theorem dX2_deal_66 : decode cX2_deal 66 = .ok (.aload_n 0, 1) := by decide +kernel
theorem dX2_deal_67 : decode cX2_deal 67 = .ok (.getfield 12, 3) := by decide +kernel
theorem dX2_deal_70 : decode cX2_deal 70 = .ok (.iload 5, 2) := by decide +kernel
theorem dX2_deal_72 : decode cX2_deal 72 = .ok (.invokevirtual 41, 3) := by decide +kernel
theorem dX2_deal_75 : decode cX2_deal 75 = .ok (.aload_n 0, 1) := by decide +kernel
theorem dX2_deal_76 : decode cX2_deal 76 = .ok (.getfield 22, 3) := by decide +kernel
theorem dX2_deal_79 : decode cX2_deal 79 = .ok (.iload 4, 2) := by decide +kernel
theorem dX2_deal_81 : decode cX2_deal 81 = .ok (.aload_n 1, 1) := by decide +kernel
theorem dX2_deal_82 : decode cX2_deal 82 = .ok (.getfield 72, 3) := by decide +kernel
theorem dX2_deal_85 : decode cX2_deal 85 = .ok (.imul, 1) := by decide +kernel
theorem dX2_deal_86 : decode cX2_deal 86 = .ok (.invokevirtual 79, 3) := by decide +kernel
theorem dX2_deal_89 : decode cX2_deal 89 = .ok (.iinc 4 1, 3) := by decide +kernel
theorem dX2_deal_92 : decode cX2_deal 92 = .ok (.goto (-70), 3) := by decide +kernel
theorem dX2_deal_95 : decode cX2_deal 95 = .ok (.iconst 0, 1) := by decide +kernel
theorem dX2_deal_96 : decode cX2_deal 96 = .ok (.istore 4, 2) := by decide +kernel
theorem dX2_deal_98 : decode cX2_deal 98 = .ok (.iload 4, 2) := by decide +kernel
theorem dX2_deal_100 : decode cX2_deal 100 = .ok (.aload_n 1, 1) := by decide +kernel
theorem dX2_deal_101 : decode cX2_deal 101 = .ok (.getfield 83, 3) := by decide +kernel
theorem dX2_deal_104 : decode cX2_deal 104 = .ok (.if_icmp .ge 79, 3) := by decide +kernel
theorem dX2_deal_107 : decode cX2_deal 107 = .ok (.aload_n 1, 1) := by decide +kernel
theorem dX2_deal_108 : decode cX2_deal 108 = .ok (.getfield 86, 3) := by decide +kernel
theorem dX2_deal_111 : decode cX2_deal 111 = .ok (.iload 4, 2) := by decide +kernel
theorem dX2_deal_113 : decode cX2_deal 113 = .ok (.iaload, 1) := by decide +kernel
theorem dX2_deal_114 : decode cX2_deal 114 = .ok (.istore 5, 2) := by decide +kernel
theorem dX2_deal_116 : decode cX2_deal 116 = .ok (.iconst 0, 1) := by decide +kernel
theorem dX2_deal_117 : decode cX2_deal 117 = .ok (.istore 6, 2) := by decide +kernel
theorem dX2_deal_119 : decode cX2_deal 119 = .ok (.iload 6, 2) := by decide +kernel
theorem dX2_deal_121 : decode cX2_deal 121 = .ok (.iload 5, 2) := by decide +kernel
theorem dX2_deal_123 : decode cX2_deal 123 = .ok (.if_icmp .ge 33, 3) := by decide +kernel
theorem dX2_deal_126 : decode cX2_deal 126 = .ok (.iload 6, 2) := by decide +kernel
theorem dX2_deal_128 : decode cX2_deal 128 = .ok (.bipush 15, 2) := by decide +kernel
theorem dX2_deal_130 : decode cX2_deal 130 = .ok (.if_icmp .ge 26, 3) := by decide +kernel
theorem dX2_deal_133 : decode cX2_deal 133 = .ok (.aload_n 0, 1) := by decide +kernel
theorem dX2_deal_134 : decode cX2_deal 134 = .ok (.getfield 25, 3) := by decide +kernel
theorem dX2_deal_137 : decode cX2_deal 137 = .ok (.iload 6, 2) := by decide +kernel
theorem dX2_deal_139 : decode cX2_deal 139 = .ok (.aload_n 1, 1) := by decide +kernel
theorem dX2_deal_140 : decode cX2_deal 140 = .ok (.getfield 89, 3) := by decide +kernel
theorem dX2_deal_143 : decode cX2_deal 143 = .ok (.iload 4, 2) := by decide +kernel
theorem dX2_deal_145 : decode cX2_deal 145 = .ok (.iaload, 1) := by decide +kernel
theorem dX2_deal_146 : decode cX2_deal 146 = .ok (.iload 6, 2) := by decide +kernel
theorem dX2_deal_148 : decode cX2_deal 148 = .ok (.iadd, 1) := by decide +kernel
theorem dX2_deal_149 : decode cX2_deal 149 = .ok (.iastore, 1) := by decide +kernel
theorem dX2_deal_150 : decode cX2_deal 150 = .ok (.iinc 6 1, 3) := by decide +kernel
theorem dX2_deal_153 : decode cX2_deal 153 = .ok (.goto (-34), 3) := by decide +kernel
theorem dX2_deal_156 : decode cX2_deal 156 = .ok (.aload_n 0, 1) := by decide +kernel
theorem dX2_deal_157 : decode cX2_deal 157 = .ok (.getfield 12, 3) := by decide +kernel
theorem dX2_deal_160 : decode cX2_deal 160 = .ok (.aload_n 0, 1) := by decide +kernel
theorem dX2_deal_161 : decode cX2_deal 161 = .ok (.getfield 25, 3) := by decide +kernel
theorem dX2_deal_164 : decode cX2_deal 164 = .ok (.iload 5, 2) := by decide +kernel
theorem dX2_deal_166 : decode cX2_deal 166 = .ok (.invokevirtual 92, 3) := by decide +kernel
theorem dX2_deal_169 : decode cX2_deal 169 = .ok (.aload_n 0, 1) := by decide +kernel
theorem dX2_deal_170 : decode cX2_deal 170 = .ok (.aload_n 1, 1) := by decide +kernel
theorem dX2_deal_171 : decode cX2_deal 171 = .ok (.iload 4, 2) := by decide +kernel
theorem dX2_deal_173 : decode cX2_deal 173 = .ok (.aload_n 3, 1) := by decide +kernel
theorem dX2_deal_174 : decode cX2_deal 174 = .ok (.invokevirtual 95, 3) := by decide +kernel
theorem dX2_deal_177 : decode cX2_deal 177 = .ok (.iinc 4 1, 3) := by decide +kernel
theorem dX2_deal_180 : decode cX2_deal 180 = .ok (.goto (-82), 3) := by decide +kernel
theorem dX2_deal_183 : decode cX2_deal 183 = .ok (.return_, 1) := by decide +kernel
theorem dX2_dealColumn_0 : decode cX2_dealColumn 0 = .ok (.iconst 0, 1) := by decide +kernel
theorem dX2_dealColumn_1 : decode cX2_dealColumn 1 = .ok (.istore 4, 2) := by decide +kernel
theorem dX2_dealColumn_3 : decode cX2_dealColumn 3 = .ok (.iconst 0, 1) := by decide +kernel
theorem dX2_dealColumn_4 : decode cX2_dealColumn 4 = .ok (.istore 5, 2) := by decide +kernel
theorem dX2_dealColumn_6 : decode cX2_dealColumn 6 = .ok (.iload 5, 2) := by decide +kernel
theorem dX2_dealColumn_8 : decode cX2_dealColumn 8 = .ok (.aload_n 1, 1) := by decide +kernel
theorem dX2_dealColumn_9 : decode cX2_dealColumn 9 = .ok (.getfield 65, 3) := by decide +kernel
theorem dX2_dealColumn_12 : decode cX2_dealColumn 12 = .ok (.if_icmp .ge 86, 3) := by decide +kernel
theorem dX2_dealColumn_15 : decode cX2_dealColumn 15 = .ok (.aload_n 0, 1) := by decide +kernel
theorem dX2_dealColumn_16 : decode cX2_dealColumn 16 = .ok (.getfield 18, 3) := by decide +kernel
theorem dX2_dealColumn_19 : decode cX2_dealColumn 19 = .ok (.iload 5, 2) := by decide +kernel
theorem dX2_dealColumn_21 : decode cX2_dealColumn 21 = .ok (.iaload, 1) := by decide +kernel
theorem dX2_dealColumn_22 : decode cX2_dealColumn 22 = .ok (.iload_n 2, 1) := by decide +kernel
theorem dX2_dealColumn_23 : decode cX2_dealColumn 23 = .ok (.invokestatic 49, 3) := by decide +kernel
theorem dX2_dealColumn_26 : decode cX2_dealColumn 26 = .ok (.istore 6, 2) := by decide +kernel
theorem dX2_dealColumn_28 : decode cX2_dealColumn 28 = .ok (.iconst 0, 1) := by decide +kernel
theorem dX2_dealColumn_29 : decode cX2_dealColumn 29 = .ok (.istore 7, 2) := by decide +kernel
theorem dX2_dealColumn_31 : decode cX2_dealColumn 31 = .ok (.iload 7, 2) := by decide +kernel
theorem dX2_dealColumn_33 : decode cX2_dealColumn 33 = .ok (.iload 6, 2) := by decide +kernel
theorem dX2_dealColumn_35 : decode cX2_dealColumn 35 = .ok (.if_icmp .ge 39, 3) := by decide +kernel
theorem dX2_dealColumn_38 : decode cX2_dealColumn 38 = .ok (.iload 7, 2) := by decide +kernel
theorem dX2_dealColumn_40 : decode cX2_dealColumn 40 = .ok (.iconst 3, 1) := by decide +kernel
theorem dX2_dealColumn_41 : decode cX2_dealColumn 41 = .ok (.if_icmp .ge 33, 3) := by decide +kernel
theorem dX2_dealColumn_44 : decode cX2_dealColumn 44 = .ok (.iload 4, 2) := by decide +kernel
theorem dX2_dealColumn_46 : decode cX2_dealColumn 46 = .ok (.bipush 15, 2) := by decide +kernel
theorem dX2_dealColumn_48 : decode cX2_dealColumn 48 = .ok (.if_icmp .ge 26, 3) := by decide +kernel
theorem dX2_dealColumn_51 : decode cX2_dealColumn 51 = .ok (.aload_n 0, 1) := by decide +kernel
theorem dX2_dealColumn_52 : decode cX2_dealColumn 52 = .ok (.getfield 28, 3) := by decide +kernel
theorem dX2_dealColumn_55 : decode cX2_dealColumn 55 = .ok (.iload 7, 2) := by decide +kernel
theorem dX2_dealColumn_57 : decode cX2_dealColumn 57 = .ok (.aload_n 0, 1) := by decide +kernel
theorem dX2_dealColumn_58 : decode cX2_dealColumn 58 = .ok (.getfield 25, 3) := by decide +kernel
theorem dX2_dealColumn_61 : decode cX2_dealColumn 61 = .ok (.iload 4, 2) := by decide +kernel
theorem dX2_dealColumn_63 : decode cX2_dealColumn 63 = .ok (.iaload, 1) := by decide +kernel
theorem dX2_dealColumn_64 : decode cX2_dealColumn 64 = .ok (.iastore, 1) := by decide +kernel
theorem dX2_dealColumn_65 : decode cX2_dealColumn 65 = .ok (.iinc 4 1, 3) := by decide +kernel
theorem dX2_dealColumn_68 : decode cX2_dealColumn 68 = .ok (.iinc 7 1, 3) := by decide +kernel
theorem dX2_dealColumn_71 : decode cX2_dealColumn 71 = .ok (.goto (-40), 3) := by decide +kernel
theorem dX2_dealColumn_74 : decode cX2_dealColumn 74 = .ok (.aload_n 0, 1) := by decide +kernel
theorem dX2_dealColumn_75 : decode cX2_dealColumn 75 = .ok (.getfield 28, 3) := by decide +kernel
theorem dX2_dealColumn_78 : decode cX2_dealColumn 78 = .ok (.iload 6, 2) := by decide +kernel
theorem dX2_dealColumn_80 : decode cX2_dealColumn 80 = .ok (.invokestatic 99, 3) := by decide +kernel
theorem dX2_dealColumn_83 : decode cX2_dealColumn 83 = .ok (.aload_n 0, 1) := by decide +kernel
theorem dX2_dealColumn_84 : decode cX2_dealColumn 84 = .ok (.aload_n 1, 1) := by decide +kernel
theorem dX2_dealColumn_85 : decode cX2_dealColumn 85 = .ok (.iload 5, 2) := by decide +kernel
theorem dX2_dealColumn_87 : decode cX2_dealColumn 87 = .ok (.iload_n 2, 1) := by decide +kernel
theorem dX2_dealColumn_88 : decode cX2_dealColumn 88 = .ok (.aload_n 3, 1) := by decide +kernel
theorem dX2_dealColumn_89 : decode cX2_dealColumn 89 = .ok (.invokevirtual 102, 3) := by decide +kernel
theorem dX2_dealColumn_92 : decode cX2_dealColumn 92 = .ok (.iinc 5 1, 3) := by decide +kernel
theorem dX2_dealColumn_95 : decode cX2_dealColumn 95 = .ok (.goto (-89), 3) := by decide +kernel
theorem dX2_dealColumn_98 : decode cX2_dealColumn 98 = .ok (.return_, 1) := by decide +kernel
theorem dX2_layDown_0 : decode cX2_layDown 0 = .ok (.iconst 0, 1) := by decide +kernel
theorem dX2_layDown_1 : decode cX2_layDown 1 = .ok (.istore 5, 2) := by decide +kernel
theorem dX2_layDown_3 : decode cX2_layDown 3 = .ok (.iconst 0, 1) := by decide +kernel
theorem dX2_layDown_4 : decode cX2_layDown 4 = .ok (.istore 6, 2) := by decide +kernel
theorem dX2_layDown_6 : decode cX2_layDown 6 = .ok (.iload 6, 2) := by decide +kernel
theorem dX2_layDown_8 : decode cX2_layDown 8 = .ok (.aload_n 1, 1) := by decide +kernel
theorem dX2_layDown_9 : decode cX2_layDown 9 = .ok (.getfield 72, 3) := by decide +kernel
theorem dX2_layDown_12 : decode cX2_layDown 12 = .ok (.if_icmp .ge 58, 3) := by decide +kernel
theorem dX2_layDown_15 : decode cX2_layDown 15 = .ok (.aload_n 0, 1) := by decide +kernel
theorem dX2_layDown_16 : decode cX2_layDown 16 = .ok (.getfield 22, 3) := by decide +kernel
theorem dX2_layDown_19 : decode cX2_layDown 19 = .ok (.iload_n 2, 1) := by decide +kernel
theorem dX2_layDown_20 : decode cX2_layDown 20 = .ok (.aload_n 1, 1) := by decide +kernel
theorem dX2_layDown_21 : decode cX2_layDown 21 = .ok (.getfield 72, 3) := by decide +kernel
theorem dX2_layDown_24 : decode cX2_layDown 24 = .ok (.imul, 1) := by decide +kernel
theorem dX2_layDown_25 : decode cX2_layDown 25 = .ok (.iload 6, 2) := by decide +kernel
theorem dX2_layDown_27 : decode cX2_layDown 27 = .ok (.iadd, 1) := by decide +kernel
theorem dX2_layDown_28 : decode cX2_layDown 28 = .ok (.iaload, 1) := by decide +kernel
theorem dX2_layDown_29 : decode cX2_layDown 29 = .ok (.iload_n 3, 1) := by decide +kernel
theorem dX2_layDown_30 : decode cX2_layDown 30 = .ok (.invokestatic 49, 3) := by decide +kernel
theorem dX2_layDown_33 : decode cX2_layDown 33 = .ok (.iconst 1, 1) := by decide +kernel
theorem dX2_layDown_34 : decode cX2_layDown 34 = .ok (.if_icmp .ne 30, 3) := by decide +kernel
theorem dX2_layDown_37 : decode cX2_layDown 37 = .ok (.iload 5, 2) := by decide +kernel
theorem dX2_layDown_39 : decode cX2_layDown 39 = .ok (.iconst 3, 1) := by decide +kernel
theorem dX2_layDown_40 : decode cX2_layDown 40 = .ok (.if_icmp .ge 24, 3) := by decide +kernel
theorem dX2_layDown_43 : decode cX2_layDown 43 = .ok (.aload 4, 2) := by decide +kernel
theorem dX2_layDown_45 : decode cX2_layDown 45 = .ok (.aload_n 1, 1) := by decide +kernel
theorem dX2_layDown_46 : decode cX2_layDown 46 = .ok (.iload_n 2, 1) := by decide +kernel
theorem dX2_layDown_47 : decode cX2_layDown 47 = .ok (.iload 6, 2) := by decide +kernel
theorem dX2_layDown_49 : decode cX2_layDown 49 = .ok (.iload_n 3, 1) := by decide +kernel
theorem dX2_layDown_50 : decode cX2_layDown 50 = .ok (.invokevirtual 106, 3) := by decide +kernel
theorem dX2_layDown_53 : decode cX2_layDown 53 = .ok (.aload_n 0, 1) := by decide +kernel
theorem dX2_layDown_54 : decode cX2_layDown 54 = .ok (.getfield 28, 3) := by decide +kernel
theorem dX2_layDown_57 : decode cX2_layDown 57 = .ok (.iload 5, 2) := by decide +kernel
theorem dX2_layDown_59 : decode cX2_layDown 59 = .ok (.iaload, 1) := by decide +kernel
theorem dX2_layDown_60 : decode cX2_layDown 60 = .ok (.iastore, 1) := by decide +kernel
theorem dX2_layDown_61 : decode cX2_layDown 61 = .ok (.iinc 5 1, 3) := by decide +kernel
theorem dX2_layDown_64 : decode cX2_layDown 64 = .ok (.iinc 6 1, 3) := by decide +kernel
theorem dX2_layDown_67 : decode cX2_layDown 67 = .ok (.goto (-61), 3) := by decide +kernel
theorem dX2_layDown_70 : decode cX2_layDown 70 = .ok (.return_, 1) := by decide +kernel
theorem dX2_mixCalls_0 : decode cX2_mixCalls 0 = .ok (.iconst 0, 1) := by decide +kernel
theorem dX2_mixCalls_1 : decode cX2_mixCalls 1 = .ok (.istore 4, 2) := by decide +kernel
theorem dX2_mixCalls_3 : decode cX2_mixCalls 3 = .ok (.iload 4, 2) := by decide +kernel
theorem dX2_mixCalls_5 : decode cX2_mixCalls 5 = .ok (.aload_n 1, 1) := by decide +kernel
theorem dX2_mixCalls_6 : decode cX2_mixCalls 6 = .ok (.getfield 110, 3) := by decide +kernel
theorem dX2_mixCalls_9 : decode cX2_mixCalls 9 = .ok (.if_icmp .ge 24, 3) := by decide +kernel
theorem dX2_mixCalls_12 : decode cX2_mixCalls 12 = .ok (.iload 4, 2) := by decide +kernel
theorem dX2_mixCalls_14 : decode cX2_mixCalls 14 = .ok (.aload_n 3, 1) := by decide +kernel
theorem dX2_mixCalls_15 : decode cX2_mixCalls 15 = .ok (.arraylength, 1) := by decide +kernel
theorem dX2_mixCalls_16 : decode cX2_mixCalls 16 = .ok (.if_icmp .ge 17, 3) := by decide +kernel
theorem dX2_mixCalls_19 : decode cX2_mixCalls 19 = .ok (.aload_n 3, 1) := by decide +kernel
theorem dX2_mixCalls_20 : decode cX2_mixCalls 20 = .ok (.iload 4, 2) := by decide +kernel
theorem dX2_mixCalls_22 : decode cX2_mixCalls 22 = .ok (.iload 4, 2) := by decide +kernel
theorem dX2_mixCalls_24 : decode cX2_mixCalls 24 = .ok (.iconst 1, 1) := by decide +kernel
theorem dX2_mixCalls_25 : decode cX2_mixCalls 25 = .ok (.iadd, 1) := by decide +kernel
theorem dX2_mixCalls_26 : decode cX2_mixCalls 26 = .ok (.iastore, 1) := by decide +kernel
theorem dX2_mixCalls_27 : decode cX2_mixCalls 27 = .ok (.iinc 4 1, 3) := by decide +kernel
theorem dX2_mixCalls_30 : decode cX2_mixCalls 30 = .ok (.goto (-27), 3) := by decide +kernel
theorem dX2_mixCalls_33 : decode cX2_mixCalls 33 = .ok (.aload_n 0, 1) := by decide +kernel
theorem dX2_mixCalls_34 : decode cX2_mixCalls 34 = .ok (.getfield 12, 3) := by decide +kernel
theorem dX2_mixCalls_37 : decode cX2_mixCalls 37 = .ok (.iload_n 2, 1) := by decide +kernel
theorem dX2_mixCalls_38 : decode cX2_mixCalls 38 = .ok (.invokevirtual 31, 3) := by decide +kernel
theorem dX2_mixCalls_41 : decode cX2_mixCalls 41 = .ok (.aload_n 0, 1) := by decide +kernel
theorem dX2_mixCalls_42 : decode cX2_mixCalls 42 = .ok (.getfield 12, 3) := by decide +kernel
theorem dX2_mixCalls_45 : decode cX2_mixCalls 45 = .ok (.aload_n 3, 1) := by decide +kernel
theorem dX2_mixCalls_46 : decode cX2_mixCalls 46 = .ok (.aload_n 1, 1) := by decide +kernel
theorem dX2_mixCalls_47 : decode cX2_mixCalls 47 = .ok (.getfield 110, 3) := by decide +kernel
theorem dX2_mixCalls_50 : decode cX2_mixCalls 50 = .ok (.invokevirtual 92, 3) := by decide +kernel
theorem dX2_mixCalls_53 : decode cX2_mixCalls 53 = .ok (.return_, 1) := by decide +kernel
theorem dX3_init_0 : decode cX3_init 0 = .ok (.aload_n 0, 1) := by decide +kernel
theorem dX3_init_1 : decode cX3_init 1 = .ok (.invokespecial 1, 3) := by decide +kernel
theorem dX3_init_4 : decode cX3_init 4 = .ok (.aload_n 0, 1) := by decide +kernel
theorem dX3_init_5 : decode cX3_init 5 = .ok (.lconst 0, 1) := by decide +kernel
theorem dX3_init_6 : decode cX3_init 6 = .ok (.putfield 7, 3) := by decide +kernel
theorem dX3_init_9 : decode cX3_init 9 = .ok (.return_, 1) := by decide +kernel
theorem dX3_begin_0 : decode cX3_begin 0 = .ok (.aload_n 0, 1) := by decide +kernel
theorem dX3_begin_1 : decode cX3_begin 1 = .ok (.iload_n 1, 1) := by decide +kernel
theorem dX3_begin_2 : decode cX3_begin 2 = .ok (.i2l, 1) := by decide +kernel
theorem dX3_begin_3 : decode cX3_begin 3 = .ok (.putfield 7, 3) := by decide +kernel
theorem dX3_begin_6 : decode cX3_begin 6 = .ok (.return_, 1) := by decide +kernel
theorem dX3_below_0 : decode cX3_below 0 = .ok (.aload_n 0, 1) := by decide +kernel
theorem dX3_below_1 : decode cX3_below 1 = .ok (.ldc2_w 13, 3) := by decide +kernel
theorem dX3_below_4 : decode cX3_below 4 = .ok (.aload_n 0, 1) := by decide +kernel
theorem dX3_below_5 : decode cX3_below 5 = .ok (.getfield 7, 3) := by decide +kernel
theorem dX3_below_8 : decode cX3_below 8 = .ok (.lmul, 1) := by decide +kernel
theorem dX3_below_9 : decode cX3_below 9 = .ok (.ldc2_w 15, 3) := by decide +kernel
theorem dX3_below_12 : decode cX3_below 12 = .ok (.ladd, 1) := by decide +kernel
theorem dX3_below_13 : decode cX3_below 13 = .ok (.ldc2_w 17, 3) := by decide +kernel
theorem dX3_below_16 : decode cX3_below 16 = .ok (.lrem, 1) := by decide +kernel
theorem dX3_below_17 : decode cX3_below 17 = .ok (.putfield 7, 3) := by decide +kernel
theorem dX3_below_20 : decode cX3_below 20 = .ok (.aload_n 0, 1) := by decide +kernel
theorem dX3_below_21 : decode cX3_below 21 = .ok (.getfield 7, 3) := by decide +kernel
theorem dX3_below_24 : decode cX3_below 24 = .ok (.ldc2_w 19, 3) := by decide +kernel
theorem dX3_below_27 : decode cX3_below 27 = .ok (.ldiv, 1) := by decide +kernel
theorem dX3_below_28 : decode cX3_below 28 = .ok (.lstore_n 2, 1) := by decide +kernel
theorem dX3_below_29 : decode cX3_below 29 = .ok (.aload_n 0, 1) := by decide +kernel
theorem dX3_below_30 : decode cX3_below 30 = .ok (.ldc2_w 13, 3) := by decide +kernel
theorem dX3_below_33 : decode cX3_below 33 = .ok (.aload_n 0, 1) := by decide +kernel
theorem dX3_below_34 : decode cX3_below 34 = .ok (.getfield 7, 3) := by decide +kernel
theorem dX3_below_37 : decode cX3_below 37 = .ok (.lmul, 1) := by decide +kernel
theorem dX3_below_38 : decode cX3_below 38 = .ok (.ldc2_w 15, 3) := by decide +kernel
theorem dX3_below_41 : decode cX3_below 41 = .ok (.ladd, 1) := by decide +kernel
theorem dX3_below_42 : decode cX3_below 42 = .ok (.ldc2_w 17, 3) := by decide +kernel
theorem dX3_below_45 : decode cX3_below 45 = .ok (.lrem, 1) := by decide +kernel
theorem dX3_below_46 : decode cX3_below 46 = .ok (.putfield 7, 3) := by decide +kernel
theorem dX3_below_49 : decode cX3_below 49 = .ok (.aload_n 0, 1) := by decide +kernel
theorem dX3_below_50 : decode cX3_below 50 = .ok (.getfield 7, 3) := by decide +kernel
theorem dX3_below_53 : decode cX3_below 53 = .ok (.ldc2_w 19, 3) := by decide +kernel
theorem dX3_below_56 : decode cX3_below 56 = .ok (.ldiv, 1) := by decide +kernel
theorem dX3_below_57 : decode cX3_below 57 = .ok (.lstore 4, 2) := by decide +kernel
theorem dX3_below_59 : decode cX3_below 59 = .ok (.iload_n 1, 1) := by decide +kernel
theorem dX3_below_60 : decode cX3_below 60 = .ok (.iconst 1, 1) := by decide +kernel
theorem dX3_below_61 : decode cX3_below 61 = .ok (.if_icmp .ge 7, 3) := by decide +kernel
theorem dX3_below_64 : decode cX3_below 64 = .ok (.iconst 0, 1) := by decide +kernel
theorem dX3_below_65 : decode cX3_below 65 = .ok (.goto 15, 3) := by decide +kernel
theorem dX3_below_68 : decode cX3_below 68 = .ok (.ldc2_w 21, 3) := by decide +kernel
theorem dX3_below_71 : decode cX3_below 71 = .ok (.lload_n 2, 1) := by decide +kernel
theorem dX3_below_72 : decode cX3_below 72 = .ok (.lmul, 1) := by decide +kernel
theorem dX3_below_73 : decode cX3_below 73 = .ok (.lload 4, 2) := by decide +kernel
theorem dX3_below_75 : decode cX3_below 75 = .ok (.ladd, 1) := by decide +kernel
theorem dX3_below_76 : decode cX3_below 76 = .ok (.iload_n 1, 1) := by decide +kernel
theorem dX3_below_77 : decode cX3_below 77 = .ok (.i2l, 1) := by decide +kernel
theorem dX3_below_78 : decode cX3_below 78 = .ok (.lrem, 1) := by decide +kernel
theorem dX3_below_79 : decode cX3_below 79 = .ok (.l2i, 1) := by decide +kernel
theorem dX3_below_80 : decode cX3_below 80 = .ok (.ireturn, 1) := by decide +kernel
theorem dX3_mix_0 : decode cX3_mix 0 = .ok (.iload_n 2, 1) := by decide +kernel
theorem dX3_mix_1 : decode cX3_mix 1 = .ok (.iconst 1, 1) := by decide +kernel
theorem dX3_mix_2 : decode cX3_mix 2 = .ok (.isub, 1) := by decide +kernel
theorem dX3_mix_3 : decode cX3_mix 3 = .ok (.istore_n 3, 1) := by decide +kernel
theorem dX3_mix_4 : decode cX3_mix 4 = .ok (.iload_n 3, 1) := by decide +kernel
theorem dX3_mix_5 : decode cX3_mix 5 = .ok (.ifCond .le 42, 3) := by decide +kernel
theorem dX3_mix_8 : decode cX3_mix 8 = .ok (.aload_n 0, 1) := by decide +kernel
theorem dX3_mix_9 : decode cX3_mix 9 = .ok (.iload_n 3, 1) := by decide +kernel
theorem dX3_mix_10 : decode cX3_mix 10 = .ok (.iconst 1, 1) := by decide +kernel
theorem dX3_mix_11 : decode cX3_mix 11 = .ok (.iadd, 1) := by decide +kernel
theorem dX3_mix_12 : decode cX3_mix 12 = .ok (.invokevirtual 23, 3) := by decide +kernel
theorem dX3_mix_15 : decode cX3_mix 15 = .ok (.istore 4, 2) := by decide +kernel
theorem dX3_mix_17 : decode cX3_mix 17 = .ok (.iload_n 3, 1) := by decide +kernel
theorem dX3_mix_18 : decode cX3_mix 18 = .ok (.aload_n 1, 1) := by decide +kernel
theorem dX3_mix_19 : decode cX3_mix 19 = .ok (.arraylength, 1) := by decide +kernel
theorem dX3_mix_20 : decode cX3_mix 20 = .ok (.if_icmp .ge 21, 3) := by decide +kernel
theorem dX3_mix_23 : decode cX3_mix 23 = .ok (.aload_n 1, 1) := by decide +kernel
theorem dX3_mix_24 : decode cX3_mix 24 = .ok (.iload_n 3, 1) := by decide +kernel
theorem dX3_mix_25 : decode cX3_mix 25 = .ok (.iaload, 1) := by decide +kernel
theorem dX3_mix_26 : decode cX3_mix 26 = .ok (.istore 5, 2) := by decide +kernel
theorem dX3_mix_28 : decode cX3_mix 28 = .ok (.aload_n 1, 1) := by decide +kernel
theorem dX3_mix_29 : decode cX3_mix 29 = .ok (.iload_n 3, 1) := by decide +kernel
theorem dX3_mix_30 : decode cX3_mix 30 = .ok (.aload_n 1, 1) := by decide +kernel
theorem dX3_mix_31 : decode cX3_mix 31 = .ok (.iload 4, 2) := by decide +kernel
theorem dX3_mix_33 : decode cX3_mix 33 = .ok (.iaload, 1) := by decide +kernel
theorem dX3_mix_34 : decode cX3_mix 34 = .ok (.iastore, 1) := by decide +kernel
theorem dX3_mix_35 : decode cX3_mix 35 = .ok (.aload_n 1, 1) := by decide +kernel
theorem dX3_mix_36 : decode cX3_mix 36 = .ok (.iload 4, 2) := by decide +kernel
theorem dX3_mix_38 : decode cX3_mix 38 = .ok (.iload 5, 2) := by decide +kernel
theorem dX3_mix_40 : decode cX3_mix 40 = .ok (.iastore, 1) := by decide +kernel
theorem dX3_mix_41 : decode cX3_mix 41 = .ok (.iinc 3 (-1), 3) := by decide +kernel
theorem dX3_mix_44 : decode cX3_mix 44 = .ok (.goto (-40), 3) := by decide +kernel
theorem dX3_mix_47 : decode cX3_mix 47 = .ok (.return_, 1) := by decide +kernel
theorem dX4_init_0 : decode cX4_init 0 = .ok (.aload_n 0, 1) := by decide +kernel
theorem dX4_init_1 : decode cX4_init 1 = .ok (.invokespecial 3, 3) := by decide +kernel
theorem dX4_init_4 : decode cX4_init 4 = .ok (.aload_n 0, 1) := by decide +kernel
theorem dX4_init_5 : decode cX4_init 5 = .ok (.iconst 0, 1) := by decide +kernel
theorem dX4_init_6 : decode cX4_init 6 = .ok (.putfield 9, 3) := by decide +kernel
theorem dX4_init_9 : decode cX4_init 9 = .ok (.aload_n 0, 1) := by decide +kernel
theorem dX4_init_10 : decode cX4_init 10 = .ok (.iconst 0, 1) := by decide +kernel
theorem dX4_init_11 : decode cX4_init 11 = .ok (.putfield 15, 3) := by decide +kernel
theorem dX4_init_14 : decode cX4_init 14 = .ok (.aload_n 0, 1) := by decide +kernel
theorem dX4_init_15 : decode cX4_init 15 = .ok (.iconst 0, 1) := by decide +kernel
theorem dX4_init_16 : decode cX4_init 16 = .ok (.putfield 18, 3) := by decide +kernel
theorem dX4_init_19 : decode cX4_init 19 = .ok (.aload_n 0, 1) := by decide +kernel
theorem dX4_init_20 : decode cX4_init 20 = .ok (.iconst 0, 1) := by decide +kernel
theorem dX4_init_21 : decode cX4_init 21 = .ok (.putfield 21, 3) := by decide +kernel
theorem dX4_init_24 : decode cX4_init 24 = .ok (.aload_n 0, 1) := by decide +kernel
theorem dX4_init_25 : decode cX4_init 25 = .ok (.iconst 5, 1) := by decide +kernel
theorem dX4_init_26 : decode cX4_init 26 = .ok (.newarray .int, 2) := by decide +kernel
theorem dX4_init_28 : decode cX4_init 28 = .ok (.putfield 24, 3) := by decide +kernel
theorem dX4_init_31 : decode cX4_init 31 = .ok (.aload_n 0, 1) := by decide +kernel
theorem dX4_init_32 : decode cX4_init 32 = .ok (.iconst 5, 1) := by decide +kernel
theorem dX4_init_33 : decode cX4_init 33 = .ok (.newarray .int, 2) := by decide +kernel
theorem dX4_init_35 : decode cX4_init 35 = .ok (.putfield 28, 3) := by decide +kernel
theorem dX4_init_38 : decode cX4_init 38 = .ok (.aload_n 0, 1) := by decide +kernel
theorem dX4_init_39 : decode cX4_init 39 = .ok (.iconst 0, 1) := by decide +kernel
theorem dX4_init_40 : decode cX4_init 40 = .ok (.putfield 31, 3) := by decide +kernel
theorem dX4_init_43 : decode cX4_init 43 = .ok (.aload_n 0, 1) := by decide +kernel
theorem dX4_init_44 : decode cX4_init 44 = .ok (.iconst 0, 1) := by decide +kernel
theorem dX4_init_45 : decode cX4_init 45 = .ok (.putfield 34, 3) := by decide +kernel
theorem dX4_init_48 : decode cX4_init 48 = .ok (.aload_n 0, 1) := by decide +kernel
theorem dX4_init_49 : decode cX4_init 49 = .ok (.iconst 0, 1) := by decide +kernel
theorem dX4_init_50 : decode cX4_init 50 = .ok (.putfield 37, 3) := by decide +kernel
theorem dX4_init_53 : decode cX4_init 53 = .ok (.aload_n 0, 1) := by decide +kernel
theorem dX4_init_54 : decode cX4_init 54 = .ok (.new 40, 3) := by decide +kernel
theorem dX4_init_57 : decode cX4_init 57 = .ok (.dup, 1) := by decide +kernel
theorem dX4_init_58 : decode cX4_init 58 = .ok (.invokespecial 42, 3) := by decide +kernel
theorem dX4_init_61 : decode cX4_init 61 = .ok (.putfield 43, 3) := by decide +kernel
theorem dX4_init_64 : decode cX4_init 64 = .ok (.aload_n 0, 1) := by decide +kernel
theorem dX4_init_65 : decode cX4_init 65 = .ok (.bipush 64, 2) := by decide +kernel
theorem dX4_init_67 : decode cX4_init 67 = .ok (.newarray .int, 2) := by decide +kernel
theorem dX4_init_69 : decode cX4_init 69 = .ok (.putfield 47, 3) := by decide +kernel
theorem dX4_init_72 : decode cX4_init 72 = .ok (.aload_n 0, 1) := by decide +kernel
theorem dX4_init_73 : decode cX4_init 73 = .ok (.new 40, 3) := by decide +kernel
theorem dX4_init_76 : decode cX4_init 76 = .ok (.dup, 1) := by decide +kernel
theorem dX4_init_77 : decode cX4_init 77 = .ok (.invokespecial 42, 3) := by decide +kernel
theorem dX4_init_80 : decode cX4_init 80 = .ok (.putfield 50, 3) := by decide +kernel
theorem dX4_init_83 : decode cX4_init 83 = .ok (.return_, 1) := by decide +kernel
theorem dX4_clear_0 : decode cX4_clear 0 = .ok (.aload_n 0, 1) := by decide +kernel
theorem dX4_clear_1 : decode cX4_clear 1 = .ok (.iconst 0, 1) := by decide +kernel
theorem dX4_clear_2 : decode cX4_clear 2 = .ok (.putfield 9, 3) := by decide +kernel
theorem dX4_clear_5 : decode cX4_clear 5 = .ok (.aload_n 0, 1) := by decide +kernel
theorem dX4_clear_6 : decode cX4_clear 6 = .ok (.iconst 0, 1) := by decide +kernel
theorem dX4_clear_7 : decode cX4_clear 7 = .ok (.putfield 15, 3) := by decide +kernel
theorem dX4_clear_10 : decode cX4_clear 10 = .ok (.aload_n 0, 1) := by decide +kernel
theorem dX4_clear_11 : decode cX4_clear 11 = .ok (.iconst 0, 1) := by decide +kernel
theorem dX4_clear_12 : decode cX4_clear 12 = .ok (.putfield 18, 3) := by decide +kernel
theorem dX4_clear_15 : decode cX4_clear 15 = .ok (.aload_n 0, 1) := by decide +kernel
theorem dX4_clear_16 : decode cX4_clear 16 = .ok (.iconst 0, 1) := by decide +kernel
theorem dX4_clear_17 : decode cX4_clear 17 = .ok (.putfield 21, 3) := by decide +kernel
theorem dX4_clear_20 : decode cX4_clear 20 = .ok (.aload_n 0, 1) := by decide +kernel
theorem dX4_clear_21 : decode cX4_clear 21 = .ok (.invokevirtual 53, 3) := by decide +kernel
theorem dX4_clear_24 : decode cX4_clear 24 = .ok (.return_, 1) := by decide +kernel
theorem dX4_copyFrom_0 : decode cX4_copyFrom 0 = .ok (.aload_n 0, 1) := by decide +kernel
theorem dX4_copyFrom_1 : decode cX4_copyFrom 1 = .ok (.aload_n 1, 1) := by decide +kernel
theorem dX4_copyFrom_2 : decode cX4_copyFrom 2 = .ok (.getfield 9, 3) := by decide +kernel
theorem dX4_copyFrom_5 : decode cX4_copyFrom 5 = .ok (.putfield 9, 3) := by decide +kernel
theorem dX4_copyFrom_8 : decode cX4_copyFrom 8 = .ok (.aload_n 0, 1) := by decide +kernel
theorem dX4_copyFrom_9 : decode cX4_copyFrom 9 = .ok (.aload_n 1, 1) := by decide +kernel
theorem dX4_copyFrom_10 : decode cX4_copyFrom 10 = .ok (.getfield 15, 3) := by decide +kernel
theorem dX4_copyFrom_13 : decode cX4_copyFrom 13 = .ok (.putfield 15, 3) := by decide +kernel
theorem dX4_copyFrom_16 : decode cX4_copyFrom 16 = .ok (.aload_n 0, 1) := by decide +kernel
theorem dX4_copyFrom_17 : decode cX4_copyFrom 17 = .ok (.aload_n 1, 1) := by decide +kernel
theorem dX4_copyFrom_18 : decode cX4_copyFrom 18 = .ok (.getfield 18, 3) := by decide +kernel
theorem dX4_copyFrom_21 : decode cX4_copyFrom 21 = .ok (.putfield 18, 3) := by decide +kernel
theorem dX4_copyFrom_24 : decode cX4_copyFrom 24 = .ok (.aload_n 0, 1) := by decide +kernel
theorem dX4_copyFrom_25 : decode cX4_copyFrom 25 = .ok (.aload_n 1, 1) := by decide +kernel
theorem dX4_copyFrom_26 : decode cX4_copyFrom 26 = .ok (.getfield 21, 3) := by decide +kernel
theorem dX4_copyFrom_29 : decode cX4_copyFrom 29 = .ok (.putfield 21, 3) := by decide +kernel
theorem dX4_copyFrom_32 : decode cX4_copyFrom 32 = .ok (.aload_n 1, 1) := by decide +kernel
theorem dX4_copyFrom_33 : decode cX4_copyFrom 33 = .ok (.getfield 24, 3) := by decide +kernel
theorem dX4_copyFrom_36 : decode cX4_copyFrom 36 = .ok (.iconst 0, 1) := by decide +kernel
theorem dX4_copyFrom_37 : decode cX4_copyFrom 37 = .ok (.aload_n 0, 1) := by decide +kernel
theorem dX4_copyFrom_38 : decode cX4_copyFrom 38 = .ok (.getfield 24, 3) := by decide +kernel
theorem dX4_copyFrom_41 : decode cX4_copyFrom 41 = .ok (.iconst 0, 1) := by decide +kernel
theorem dX4_copyFrom_42 : decode cX4_copyFrom 42 = .ok (.iconst 5, 1) := by decide +kernel
theorem dX4_copyFrom_43 : decode cX4_copyFrom 43 = .ok (.invokestatic 56, 3) := by decide +kernel
theorem dX4_copyFrom_46 : decode cX4_copyFrom 46 = .ok (.aload_n 0, 1) := by decide +kernel
theorem dX4_copyFrom_47 : decode cX4_copyFrom 47 = .ok (.invokevirtual 53, 3) := by decide +kernel
theorem dX4_copyFrom_50 : decode cX4_copyFrom 50 = .ok (.return_, 1) := by decide +kernel
theorem dX4_settle_0 : decode cX4_settle 0 = .ok (.aload_n 0, 1) := by decide +kernel
theorem dX4_settle_1 : decode cX4_settle 1 = .ok (.iconst 0, 1) := by decide +kernel
theorem dX4_settle_2 : decode cX4_settle 2 = .ok (.putfield 31, 3) := by decide +kernel
theorem dX4_settle_5 : decode cX4_settle 5 = .ok (.aload_n 0, 1) := by decide +kernel
theorem dX4_settle_6 : decode cX4_settle 6 = .ok (.iconst 0, 1) := by decide +kernel
theorem dX4_settle_7 : decode cX4_settle 7 = .ok (.putfield 34, 3) := by decide +kernel
theorem dX4_settle_10 : decode cX4_settle 10 = .ok (.iconst 0, 1) := by decide +kernel
theorem dX4_settle_11 : decode cX4_settle 11 = .ok (.istore_n 1, 1) := by decide +kernel
theorem dX4_settle_12 : decode cX4_settle 12 = .ok (.iload_n 1, 1) := by decide +kernel
theorem dX4_settle_13 : decode cX4_settle 13 = .ok (.aload_n 0, 1) := by decide +kernel
theorem dX4_settle_14 : decode cX4_settle 14 = .ok (.getfield 21, 3) := by decide +kernel
theorem dX4_settle_17 : decode cX4_settle 17 = .ok (.if_icmp .ge 55, 3) := by decide +kernel
theorem dX4_settle_20 : decode cX4_settle 20 = .ok (.aload_n 0, 1) := by decide +kernel
theorem dX4_settle_21 : decode cX4_settle 21 = .ok (.getfield 28, 3) := by decide +kernel
theorem dX4_settle_24 : decode cX4_settle 24 = .ok (.iload_n 1, 1) := by decide +kernel
theorem dX4_settle_25 : decode cX4_settle 25 = .ok (.aload_n 0, 1) := by decide +kernel
theorem dX4_settle_26 : decode cX4_settle 26 = .ok (.getfield 31, 3) := by decide +kernel
theorem dX4_settle_29 : decode cX4_settle 29 = .ok (.iconst 1, 1) := by decide +kernel
theorem dX4_settle_30 : decode cX4_settle 30 = .ok (.iadd, 1) := by decide +kernel
theorem dX4_settle_31 : decode cX4_settle 31 = .ok (.iastore, 1) := by decide +kernel
theorem dX4_settle_32 : decode cX4_settle 32 = .ok (.aload_n 0, 1) := by decide +kernel
theorem dX4_settle_33 : decode cX4_settle 33 = .ok (.dup, 1) := by decide +kernel
theorem dX4_settle_34 : decode cX4_settle 34 = .ok (.getfield 31, 3) := by decide +kernel
theorem dX4_settle_37 : decode cX4_settle 37 = .ok (.aload_n 0, 1) := by decide +kernel
theorem dX4_settle_38 : decode cX4_settle 38 = .ok (.getfield 24, 3) := by decide +kernel
theorem dX4_settle_41 : decode cX4_settle 41 = .ok (.iload_n 1, 1) := by decide +kernel
theorem dX4_settle_42 : decode cX4_settle 42 = .ok (.iaload, 1) := by decide +kernel
theorem dX4_settle_43 : decode cX4_settle 43 = .ok (.iadd, 1) := by decide +kernel
theorem dX4_settle_44 : decode cX4_settle 44 = .ok (.putfield 31, 3) := by decide +kernel
theorem dX4_settle_47 : decode cX4_settle 47 = .ok (.aload_n 0, 1) := by decide +kernel
theorem dX4_settle_48 : decode cX4_settle 48 = .ok (.dup, 1) := by decide +kernel
theorem dX4_settle_49 : decode cX4_settle 49 = .ok (.getfield 34, 3) := by decide +kernel
theorem dX4_settle_52 : decode cX4_settle 52 = .ok (.iload_n 1, 1) := by decide +kernel
theorem dX4_settle_53 : decode cX4_settle 53 = .ok (.aload_n 0, 1) := by decide +kernel
theorem dX4_settle_54 : decode cX4_settle 54 = .ok (.getfield 24, 3) := by decide +kernel
theorem dX4_settle_57 : decode cX4_settle 57 = .ok (.iload_n 1, 1) := by decide +kernel
theorem dX4_settle_58 : decode cX4_settle 58 = .ok (.iaload, 1) := by decide +kernel
theorem dX4_settle_59 : decode cX4_settle 59 = .ok (.invokestatic 62, 3) := by decide +kernel
theorem dX4_settle_62 : decode cX4_settle 62 = .ok (.iadd, 1) := by decide +kernel
theorem dX4_settle_63 : decode cX4_settle 63 = .ok (.putfield 34, 3) := by decide +kernel
theorem dX4_settle_66 : decode cX4_settle 66 = .ok (.iinc 1 1, 3) := by decide +kernel
theorem dX4_settle_69 : decode cX4_settle 69 = .ok (.goto (-57), 3) := by decide +kernel
theorem dX4_settle_72 : decode cX4_settle 72 = .ok (.aload_n 0, 1) := by decide +kernel
theorem dX4_settle_73 : decode cX4_settle 73 = .ok (.getfield 43, 3) := by decide +kernel
theorem dX4_settle_76 : decode cX4_settle 76 = .ok (.aload_n 0, 1) := by decide +kernel
theorem dX4_settle_77 : decode cX4_settle 77 = .ok (.getfield 21, 3) := by decide +kernel
theorem dX4_settle_80 : decode cX4_settle 80 = .ok (.aload_n 0, 1) := by decide +kernel
theorem dX4_settle_81 : decode cX4_settle 81 = .ok (.getfield 15, 3) := by decide +kernel
theorem dX4_settle_84 : decode cX4_settle 84 = .ok (.aload_n 0, 1) := by decide +kernel
theorem dX4_settle_85 : decode cX4_settle 85 = .ok (.getfield 18, 3) := by decide +kernel
theorem dX4_settle_88 : decode cX4_settle 88 = .ok (.invokevirtual 66, 3) := by decide +kernel
theorem dX4_settle_91 : decode cX4_settle 91 = .ok (.aload_n 0, 1) := by decide +kernel
theorem dX4_settle_92 : decode cX4_settle 92 = .ok (.getfield 50, 3) := by decide +kernel
theorem dX4_settle_95 : decode cX4_settle 95 = .ok (.aload_n 0, 1) := by decide +kernel
theorem dX4_settle_96 : decode cX4_settle 96 = .ok (.getfield 21, 3) := by decide +kernel
theorem dX4_settle_99 : decode cX4_settle 99 = .ok (.aload_n 0, 1) := by decide +kernel
theorem dX4_settle_100 : decode cX4_settle 100 = .ok (.getfield 18, 3) := by decide +kernel
theorem dX4_settle_103 : decode cX4_settle 103 = .ok (.invokevirtual 70, 3) := by decide +kernel
theorem dX4_settle_106 : decode cX4_settle 106 = .ok (.aload_n 0, 1) := by decide +kernel
theorem dX4_settle_107 : decode cX4_settle 107 = .ok (.iconst 0, 1) := by decide +kernel
theorem dX4_settle_108 : decode cX4_settle 108 = .ok (.putfield 37, 3) := by decide +kernel
theorem dX4_settle_111 : decode cX4_settle 111 = .ok (.iconst 0, 1) := by decide +kernel
theorem dX4_settle_112 : decode cX4_settle 112 = .ok (.istore_n 1, 1) := by decide +kernel
theorem dX4_settle_113 : decode cX4_settle 113 = .ok (.iload_n 1, 1) := by decide +kernel
theorem dX4_settle_114 : decode cX4_settle 114 = .ok (.aload_n 0, 1) := by decide +kernel
theorem dX4_settle_115 : decode cX4_settle 115 = .ok (.getfield 43, 3) := by decide +kernel
theorem dX4_settle_118 : decode cX4_settle 118 = .ok (.getfield 74, 3) := by decide +kernel
theorem dX4_settle_121 : decode cX4_settle 121 = .ok (.if_icmp .ge 82, 3) := by decide +kernel
theorem dX4_settle_124 : decode cX4_settle 124 = .ok (.aload_n 0, 1) := by decide +kernel
theorem dX4_settle_125 : decode cX4_settle 125 = .ok (.getfield 34, 3) := by decide +kernel
theorem dX4_settle_128 : decode cX4_settle 128 = .ok (.aload_n 0, 1) := by decide +kernel
theorem dX4_settle_129 : decode cX4_settle 129 = .ok (.getfield 43, 3) := by decide +kernel
theorem dX4_settle_132 : decode cX4_settle 132 = .ok (.getfield 77, 3) := by decide +kernel
theorem dX4_settle_135 : decode cX4_settle 135 = .ok (.iload_n 1, 1) := by decide +kernel
theorem dX4_settle_136 : decode cX4_settle 136 = .ok (.iaload, 1) := by decide +kernel
theorem dX4_settle_137 : decode cX4_settle 137 = .ok (.isub, 1) := by decide +kernel
theorem dX4_settle_138 : decode cX4_settle 138 = .ok (.istore_n 2, 1) := by decide +kernel
theorem dX4_settle_139 : decode cX4_settle 139 = .ok (.aload_n 0, 1) := by decide +kernel
theorem dX4_settle_140 : decode cX4_settle 140 = .ok (.getfield 47, 3) := by decide +kernel
theorem dX4_settle_143 : decode cX4_settle 143 = .ok (.iload_n 1, 1) := by decide +kernel
theorem dX4_settle_144 : decode cX4_settle 144 = .ok (.aload_n 0, 1) := by decide +kernel
theorem dX4_settle_145 : decode cX4_settle 145 = .ok (.getfield 34, 3) := by decide +kernel
theorem dX4_settle_148 : decode cX4_settle 148 = .ok (.aload_n 0, 1) := by decide +kernel
theorem dX4_settle_149 : decode cX4_settle 149 = .ok (.getfield 43, 3) := by decide +kernel
theorem dX4_settle_152 : decode cX4_settle 152 = .ok (.getfield 77, 3) := by decide +kernel
theorem dX4_settle_155 : decode cX4_settle 155 = .ok (.iload_n 1, 1) := by decide +kernel
theorem dX4_settle_156 : decode cX4_settle 156 = .ok (.iaload, 1) := by decide +kernel
theorem dX4_settle_157 : decode cX4_settle 157 = .ok (.invokestatic 80, 3) := by decide +kernel
theorem dX4_settle_160 : decode cX4_settle 160 = .ok (.ifCond .eq 20, 3) := by decide +kernel
theorem dX4_settle_163 : decode cX4_settle 163 = .ok (.aload_n 0, 1) := by decide +kernel
theorem dX4_settle_164 : decode cX4_settle 164 = .ok (.getfield 43, 3) := by decide +kernel
theorem dX4_settle_167 : decode cX4_settle 167 = .ok (.aload_n 0, 1) := by decide +kernel
theorem dX4_settle_168 : decode cX4_settle 168 = .ok (.getfield 9, 3) := by decide +kernel
theorem dX4_settle_171 : decode cX4_settle 171 = .ok (.iconst 1, 1) := by decide +kernel
theorem dX4_settle_172 : decode cX4_settle 172 = .ok (.isub, 1) := by decide +kernel
theorem dX4_settle_173 : decode cX4_settle 173 = .ok (.iload_n 2, 1) := by decide +kernel
theorem dX4_settle_174 : decode cX4_settle 174 = .ok (.invokestatic 84, 3) := by decide +kernel
theorem dX4_settle_177 : decode cX4_settle 177 = .ok (.goto 4, 3) := by decide +kernel
theorem dX4_settle_180 : decode cX4_settle 180 = .ok (.iconst 0, 1) := by decide +kernel
theorem dX4_settle_181 : decode cX4_settle 181 = .ok (.iastore, 1) := by decide +kernel
theorem dX4_settle_182 : decode cX4_settle 182 = .ok (.aload_n 0, 1) := by decide +kernel
theorem dX4_settle_183 : decode cX4_settle 183 = .ok (.dup, 1) := by decide +kernel
theorem dX4_settle_184 : decode cX4_settle 184 = .ok (.getfield 37, 3) := by decide +kernel
theorem dX4_settle_187 : decode cX4_settle 187 = .ok (.aload_n 0, 1) := by decide +kernel
theorem dX4_settle_188 : decode cX4_settle 188 = .ok (.getfield 47, 3) := by decide +kernel
theorem dX4_settle_191 : decode cX4_settle 191 = .ok (.iload_n 1, 1) := by decide +kernel
theorem dX4_settle_192 : decode cX4_settle 192 = .ok (.iaload, 1) := by decide +kernel
theorem dX4_settle_193 : decode cX4_settle 193 = .ok (.iadd, 1) := by decide +kernel
theorem dX4_settle_194 : decode cX4_settle 194 = .ok (.putfield 37, 3) := by decide +kernel
theorem dX4_settle_197 : decode cX4_settle 197 = .ok (.iinc 1 1, 3) := by decide +kernel
theorem dX4_settle_200 : decode cX4_settle 200 = .ok (.goto (-87), 3) := by decide +kernel
theorem dX4_settle_203 : decode cX4_settle 203 = .ok (.return_, 1) := by decide +kernel
theorem dX4_putPlan_0 : decode cX4_putPlan 0 = .ok (.iload_n 1, 1) := by decide +kernel
theorem dX4_putPlan_1 : decode cX4_putPlan 1 = .ok (.istore_n 3, 1) := by decide +kernel
theorem dX4_putPlan_2 : decode cX4_putPlan 2 = .ok (.iconst 0, 1) := by decide +kernel
theorem dX4_putPlan_3 : decode cX4_putPlan 3 = .ok (.istore 4, 2) := by decide +kernel
theorem dX4_putPlan_5 : decode cX4_putPlan 5 = .ok (.iload 4, 2) := by decide +kernel
theorem dX4_putPlan_7 : decode cX4_putPlan 7 = .ok (.aload_n 0, 1) := by decide +kernel
theorem dX4_putPlan_8 : decode cX4_putPlan 8 = .ok (.getfield 43, 3) := by decide +kernel
theorem dX4_putPlan_11 : decode cX4_putPlan 11 = .ok (.getfield 74, 3) := by decide +kernel
theorem dX4_putPlan_14 : decode cX4_putPlan 14 = .ok (.if_icmp .ge 80, 3) := by decide +kernel
theorem dX4_putPlan_17 : decode cX4_putPlan 17 = .ok (.iload_n 3, 1) := by decide +kernel
theorem dX4_putPlan_18 : decode cX4_putPlan 18 = .ok (.aload_n 0, 1) := by decide +kernel
theorem dX4_putPlan_19 : decode cX4_putPlan 19 = .ok (.getfield 47, 3) := by decide +kernel
theorem dX4_putPlan_22 : decode cX4_putPlan 22 = .ok (.iload 4, 2) := by decide +kernel
theorem dX4_putPlan_24 : decode cX4_putPlan 24 = .ok (.iaload, 1) := by decide +kernel
theorem dX4_putPlan_25 : decode cX4_putPlan 25 = .ok (.if_icmp .ge 53, 3) := by decide +kernel
theorem dX4_putPlan_28 : decode cX4_putPlan 28 = .ok (.aload_n 2, 1) := by decide +kernel
theorem dX4_putPlan_29 : decode cX4_putPlan 29 = .ok (.arraylength, 1) := by decide +kernel
theorem dX4_putPlan_30 : decode cX4_putPlan 30 = .ok (.ifCond .le 48, 3) := by decide +kernel
theorem dX4_putPlan_33 : decode cX4_putPlan 33 = .ok (.aload_n 2, 1) := by decide +kernel
theorem dX4_putPlan_34 : decode cX4_putPlan 34 = .ok (.iconst 0, 1) := by decide +kernel
theorem dX4_putPlan_35 : decode cX4_putPlan 35 = .ok (.aload_n 0, 1) := by decide +kernel
theorem dX4_putPlan_36 : decode cX4_putPlan 36 = .ok (.getfield 43, 3) := by decide +kernel
theorem dX4_putPlan_39 : decode cX4_putPlan 39 = .ok (.getfield 77, 3) := by decide +kernel
theorem dX4_putPlan_42 : decode cX4_putPlan 42 = .ok (.iload 4, 2) := by decide +kernel
theorem dX4_putPlan_44 : decode cX4_putPlan 44 = .ok (.iaload, 1) := by decide +kernel
theorem dX4_putPlan_45 : decode cX4_putPlan 45 = .ok (.iastore, 1) := by decide +kernel
theorem dX4_putPlan_46 : decode cX4_putPlan 46 = .ok (.aload_n 0, 1) := by decide +kernel
theorem dX4_putPlan_47 : decode cX4_putPlan 47 = .ok (.getfield 43, 3) := by decide +kernel
theorem dX4_putPlan_50 : decode cX4_putPlan 50 = .ok (.aload_n 0, 1) := by decide +kernel
theorem dX4_putPlan_51 : decode cX4_putPlan 51 = .ok (.getfield 9, 3) := by decide +kernel
theorem dX4_putPlan_54 : decode cX4_putPlan 54 = .ok (.iconst 1, 1) := by decide +kernel
theorem dX4_putPlan_55 : decode cX4_putPlan 55 = .ok (.isub, 1) := by decide +kernel
theorem dX4_putPlan_56 : decode cX4_putPlan 56 = .ok (.aload_n 0, 1) := by decide +kernel
theorem dX4_putPlan_57 : decode cX4_putPlan 57 = .ok (.getfield 34, 3) := by decide +kernel
theorem dX4_putPlan_60 : decode cX4_putPlan 60 = .ok (.aload_n 0, 1) := by decide +kernel
theorem dX4_putPlan_61 : decode cX4_putPlan 61 = .ok (.getfield 43, 3) := by decide +kernel
theorem dX4_putPlan_64 : decode cX4_putPlan 64 = .ok (.getfield 77, 3) := by decide +kernel
theorem dX4_putPlan_67 : decode cX4_putPlan 67 = .ok (.iload 4, 2) := by decide +kernel
theorem dX4_putPlan_69 : decode cX4_putPlan 69 = .ok (.iaload, 1) := by decide +kernel
theorem dX4_putPlan_70 : decode cX4_putPlan 70 = .ok (.isub, 1) := by decide +kernel
theorem dX4_putPlan_71 : decode cX4_putPlan 71 = .ok (.iload_n 3, 1) := by decide +kernel
theorem dX4_putPlan_72 : decode cX4_putPlan 72 = .ok (.aload_n 2, 1) := by decide +kernel
theorem dX4_putPlan_73 : decode cX4_putPlan 73 = .ok (.iconst 1, 1) := by decide +kernel
theorem dX4_putPlan_74 : decode cX4_putPlan 74 = .ok (.invokevirtual 88, 3) := by decide +kernel
theorem dX4_putPlan_77 : decode cX4_putPlan 77 = .ok (.return_, 1) := by decide +kernel
theorem dX4_putPlan_78 : decode cX4_putPlan 78 = .ok (.iload_n 3, 1) := by decide +kernel
theorem dX4_putPlan_79 : decode cX4_putPlan 79 = .ok (.aload_n 0, 1) := by decide +kernel
theorem dX4_putPlan_80 : decode cX4_putPlan 80 = .ok (.getfield 47, 3) := by decide +kernel
theorem dX4_putPlan_83 : decode cX4_putPlan 83 = .ok (.iload 4, 2) := by decide +kernel
theorem dX4_putPlan_85 : decode cX4_putPlan 85 = .ok (.iaload, 1) := by decide +kernel
theorem dX4_putPlan_86 : decode cX4_putPlan 86 = .ok (.isub, 1) := by decide +kernel
theorem dX4_putPlan_87 : decode cX4_putPlan 87 = .ok (.istore_n 3, 1) := by decide +kernel
theorem dX4_putPlan_88 : decode cX4_putPlan 88 = .ok (.iinc 4 1, 3) := by decide +kernel
theorem dX4_putPlan_91 : decode cX4_putPlan 91 = .ok (.goto (-86), 3) := by decide +kernel
theorem dX4_putPlan_94 : decode cX4_putPlan 94 = .ok (.return_, 1) := by decide +kernel
theorem dX4_isAsSaid_0 : decode cX4_isAsSaid 0 = .ok (.aload_n 0, 1) := by decide +kernel
theorem dX4_isAsSaid_1 : decode cX4_isAsSaid 1 = .ok (.getfield 21, 3) := by decide +kernel
theorem dX4_isAsSaid_4 : decode cX4_isAsSaid 4 = .ok (.iconst 2, 1) := by decide +kernel
theorem dX4_isAsSaid_5 : decode cX4_isAsSaid 5 = .ok (.if_icmp .lt 46, 3) := by decide +kernel
theorem dX4_isAsSaid_8 : decode cX4_isAsSaid 8 = .ok (.aload_n 0, 1) := by decide +kernel
theorem dX4_isAsSaid_9 : decode cX4_isAsSaid 9 = .ok (.getfield 21, 3) := by decide +kernel
theorem dX4_isAsSaid_12 : decode cX4_isAsSaid 12 = .ok (.aload_n 0, 1) := by decide +kernel
theorem dX4_isAsSaid_13 : decode cX4_isAsSaid 13 = .ok (.getfield 18, 3) := by decide +kernel
theorem dX4_isAsSaid_16 : decode cX4_isAsSaid 16 = .ok (.if_icmp .lt 35, 3) := by decide +kernel
theorem dX4_isAsSaid_19 : decode cX4_isAsSaid 19 = .ok (.aload_n 0, 1) := by decide +kernel
theorem dX4_isAsSaid_20 : decode cX4_isAsSaid 20 = .ok (.getfield 31, 3) := by decide +kernel
theorem dX4_isAsSaid_23 : decode cX4_isAsSaid 23 = .ok (.aload_n 0, 1) := by decide +kernel
theorem dX4_isAsSaid_24 : decode cX4_isAsSaid 24 = .ok (.getfield 9, 3) := by decide +kernel
theorem dX4_isAsSaid_27 : decode cX4_isAsSaid 27 = .ok (.aload_n 0, 1) := by decide +kernel
theorem dX4_isAsSaid_28 : decode cX4_isAsSaid 28 = .ok (.getfield 15, 3) := by decide +kernel
theorem dX4_isAsSaid_31 : decode cX4_isAsSaid 31 = .ok (.imul, 1) := by decide +kernel
theorem dX4_isAsSaid_32 : decode cX4_isAsSaid 32 = .ok (.aload_n 0, 1) := by decide +kernel
theorem dX4_isAsSaid_33 : decode cX4_isAsSaid 33 = .ok (.getfield 18, 3) := by decide +kernel
theorem dX4_isAsSaid_36 : decode cX4_isAsSaid 36 = .ok (.imul, 1) := by decide +kernel
theorem dX4_isAsSaid_37 : decode cX4_isAsSaid 37 = .ok (.if_icmp .ne 14, 3) := by decide +kernel
theorem dX4_isAsSaid_40 : decode cX4_isAsSaid 40 = .ok (.aload_n 0, 1) := by decide +kernel
theorem dX4_isAsSaid_41 : decode cX4_isAsSaid 41 = .ok (.getfield 37, 3) := by decide +kernel
theorem dX4_isAsSaid_44 : decode cX4_isAsSaid 44 = .ok (.ifCond .le 7, 3) := by decide +kernel
theorem dX4_isAsSaid_47 : decode cX4_isAsSaid 47 = .ok (.iconst 1, 1) := by decide +kernel
theorem dX4_isAsSaid_48 : decode cX4_isAsSaid 48 = .ok (.goto 4, 3) := by decide +kernel
theorem dX4_isAsSaid_51 : decode cX4_isAsSaid 51 = .ok (.iconst 0, 1) := by decide +kernel
theorem dX4_isAsSaid_52 : decode cX4_isAsSaid 52 = .ok (.ireturn, 1) := by decide +kernel
theorem dX4_placeOf_0 : decode cX4_placeOf 0 = .ok (.iload_n 1, 1) := by decide +kernel
theorem dX4_placeOf_1 : decode cX4_placeOf 1 = .ok (.aload_n 0, 1) := by decide +kernel
theorem dX4_placeOf_2 : decode cX4_placeOf 2 = .ok (.getfield 15, 3) := by decide +kernel
theorem dX4_placeOf_5 : decode cX4_placeOf 5 = .ok (.imul, 1) := by decide +kernel
theorem dX4_placeOf_6 : decode cX4_placeOf 6 = .ok (.iload_n 2, 1) := by decide +kernel
theorem dX4_placeOf_7 : decode cX4_placeOf 7 = .ok (.iadd, 1) := by decide +kernel
theorem dX4_placeOf_8 : decode cX4_placeOf 8 = .ok (.aload_n 0, 1) := by decide +kernel
theorem dX4_placeOf_9 : decode cX4_placeOf 9 = .ok (.getfield 21, 3) := by decide +kernel
theorem dX4_placeOf_12 : decode cX4_placeOf 12 = .ok (.imul, 1) := by decide +kernel
theorem dX4_placeOf_13 : decode cX4_placeOf 13 = .ok (.iload_n 3, 1) := by decide +kernel
theorem dX4_placeOf_14 : decode cX4_placeOf 14 = .ok (.iadd, 1) := by decide +kernel
theorem dX4_placeOf_15 : decode cX4_placeOf 15 = .ok (.istore 4, 2) := by decide +kernel
theorem dX4_placeOf_17 : decode cX4_placeOf 17 = .ok (.iload 4, 2) := by decide +kernel
theorem dX4_placeOf_19 : decode cX4_placeOf 19 = .ok (.ifCond .lt 10, 3) := by decide +kernel
theorem dX4_placeOf_22 : decode cX4_placeOf 22 = .ok (.iload 4, 2) := by decide +kernel
theorem dX4_placeOf_24 : decode cX4_placeOf 24 = .ok (.bipush 45, 2) := by decide +kernel
theorem dX4_placeOf_26 : decode cX4_placeOf 26 = .ok (.if_icmp .lt 7, 3) := by decide +kernel
theorem dX4_placeOf_29 : decode cX4_placeOf 29 = .ok (.iconst 0, 1) := by decide +kernel
theorem dX4_placeOf_30 : decode cX4_placeOf 30 = .ok (.goto 5, 3) := by decide +kernel
theorem dX4_placeOf_33 : decode cX4_placeOf 33 = .ok (.iload 4, 2) := by decide +kernel
theorem dX4_placeOf_35 : decode cX4_placeOf 35 = .ok (.ireturn, 1) := by decide +kernel
theorem dX4_numbersOf_0 : decode cX4_numbersOf 0 = .ok (.lconst 0, 1) := by decide +kernel
theorem dX4_numbersOf_1 : decode cX4_numbersOf 1 = .ok (.lstore_n 3, 1) := by decide +kernel
theorem dX4_numbersOf_2 : decode cX4_numbersOf 2 = .ok (.iconst 0, 1) := by decide +kernel
theorem dX4_numbersOf_3 : decode cX4_numbersOf 3 = .ok (.istore 5, 2) := by decide +kernel
theorem dX4_numbersOf_5 : decode cX4_numbersOf 5 = .ok (.iload 5, 2) := by decide +kernel
theorem dX4_numbersOf_7 : decode cX4_numbersOf 7 = .ok (.aload_n 0, 1) := by decide +kernel
theorem dX4_numbersOf_8 : decode cX4_numbersOf 8 = .ok (.getfield 15, 3) := by decide +kernel
theorem dX4_numbersOf_11 : decode cX4_numbersOf 11 = .ok (.if_icmp .ge 56, 3) := by decide +kernel
theorem dX4_numbersOf_14 : decode cX4_numbersOf 14 = .ok (.iconst 0, 1) := by decide +kernel
theorem dX4_numbersOf_15 : decode cX4_numbersOf 15 = .ok (.istore 6, 2) := by decide +kernel
theorem dX4_numbersOf_17 : decode cX4_numbersOf 17 = .ok (.iload 6, 2) := by decide +kernel
theorem dX4_numbersOf_19 : decode cX4_numbersOf 19 = .ok (.aload_n 0, 1) := by decide +kernel
theorem dX4_numbersOf_20 : decode cX4_numbersOf 20 = .ok (.getfield 21, 3) := by decide +kernel
theorem dX4_numbersOf_23 : decode cX4_numbersOf 23 = .ok (.if_icmp .ge 38, 3) := by decide +kernel
theorem dX4_numbersOf_26 : decode cX4_numbersOf 26 = .ok (.aload_n 1, 1) := by decide +kernel
theorem dX4_numbersOf_27 : decode cX4_numbersOf 27 = .ok (.aload_n 0, 1) := by decide +kernel
theorem dX4_numbersOf_28 : decode cX4_numbersOf 28 = .ok (.iload_n 2, 1) := by decide +kernel
theorem dX4_numbersOf_29 : decode cX4_numbersOf 29 = .ok (.iload 5, 2) := by decide +kernel
theorem dX4_numbersOf_31 : decode cX4_numbersOf 31 = .ok (.iload 6, 2) := by decide +kernel
theorem dX4_numbersOf_33 : decode cX4_numbersOf 33 = .ok (.invokevirtual 92, 3) := by decide +kernel
theorem dX4_numbersOf_36 : decode cX4_numbersOf 36 = .ok (.iaload, 1) := by decide +kernel
theorem dX4_numbersOf_37 : decode cX4_numbersOf 37 = .ok (.istore 7, 2) := by decide +kernel
theorem dX4_numbersOf_39 : decode cX4_numbersOf 39 = .ok (.lload_n 3, 1) := by decide +kernel
theorem dX4_numbersOf_40 : decode cX4_numbersOf 40 = .ok (.iload 7, 2) := by decide +kernel
theorem dX4_numbersOf_42 : decode cX4_numbersOf 42 = .ok (.ifCond .ne 7, 3) := by decide +kernel
theorem dX4_numbersOf_45 : decode cX4_numbersOf 45 = .ok (.lconst 0, 1) := by decide +kernel
theorem dX4_numbersOf_46 : decode cX4_numbersOf 46 = .ok (.goto 7, 3) := by decide +kernel
theorem dX4_numbersOf_49 : decode cX4_numbersOf 49 = .ok (.lconst 1, 1) := by decide +kernel
theorem dX4_numbersOf_50 : decode cX4_numbersOf 50 = .ok (.iload 7, 2) := by decide +kernel
theorem dX4_numbersOf_52 : decode cX4_numbersOf 52 = .ok (.lshl, 1) := by decide +kernel
theorem dX4_numbersOf_53 : decode cX4_numbersOf 53 = .ok (.lor, 1) := by decide +kernel
theorem dX4_numbersOf_54 : decode cX4_numbersOf 54 = .ok (.lstore_n 3, 1) := by decide +kernel
theorem dX4_numbersOf_55 : decode cX4_numbersOf 55 = .ok (.iinc 6 1, 3) := by decide +kernel
theorem dX4_numbersOf_58 : decode cX4_numbersOf 58 = .ok (.goto (-41), 3) := by decide +kernel
theorem dX4_numbersOf_61 : decode cX4_numbersOf 61 = .ok (.iinc 5 1, 3) := by decide +kernel
theorem dX4_numbersOf_64 : decode cX4_numbersOf 64 = .ok (.goto (-59), 3) := by decide +kernel
theorem dX4_numbersOf_67 : decode cX4_numbersOf 67 = .ok (.lload_n 3, 1) := by decide +kernel
theorem dX4_numbersOf_68 : decode cX4_numbersOf 68 = .ok (.lreturn, 1) := by decide +kernel
theorem dX5_init_0 : decode cX5_init 0 = .ok (.aload_n 0, 1) := by decide +kernel
theorem dX5_init_1 : decode cX5_init 1 = .ok (.invokespecial 3, 3) := by decide +kernel
theorem dX5_init_4 : decode cX5_init 4 = .ok (.aload_n 0, 1) := by decide +kernel
theorem dX5_init_5 : decode cX5_init 5 = .ok (.new 9, 3) := by decide +kernel
theorem dX5_init_8 : decode cX5_init 8 = .ok (.dup, 1) := by decide +kernel
theorem dX5_init_9 : decode cX5_init 9 = .ok (.invokespecial 11, 3) := by decide +kernel
theorem dX5_init_12 : decode cX5_init 12 = .ok (.putfield 12, 3) := by decide +kernel
theorem dX5_init_15 : decode cX5_init 15 = .ok (.aload_n 0, 1) := by decide +kernel
theorem dX5_init_16 : decode cX5_init 16 = .ok (.iconst 0, 1) := by decide +kernel
theorem dX5_init_17 : decode cX5_init 17 = .ok (.putfield 18, 3) := by decide +kernel
theorem dX5_init_20 : decode cX5_init 20 = .ok (.aload_n 0, 1) := by decide +kernel
theorem dX5_init_21 : decode cX5_init 21 = .ok (.iconst 3, 1) := by decide +kernel
theorem dX5_init_22 : decode cX5_init 22 = .ok (.newarray .int, 2) := by decide +kernel
theorem dX5_init_24 : decode cX5_init 24 = .ok (.putfield 22, 3) := by decide +kernel
theorem dX5_init_27 : decode cX5_init 27 = .ok (.aload_n 0, 1) := by decide +kernel
theorem dX5_init_28 : decode cX5_init 28 = .ok (.iconst 0, 1) := by decide +kernel
theorem dX5_init_29 : decode cX5_init 29 = .ok (.putfield 26, 3) := by decide +kernel
theorem dX5_init_32 : decode cX5_init 32 = .ok (.aload_n 0, 1) := by decide +kernel
theorem dX5_init_33 : decode cX5_init 33 = .ok (.iconst 0, 1) := by decide +kernel
theorem dX5_init_34 : decode cX5_init 34 = .ok (.putfield 29, 3) := by decide +kernel
theorem dX5_init_37 : decode cX5_init 37 = .ok (.aload_n 0, 1) := by decide +kernel
theorem dX5_init_38 : decode cX5_init 38 = .ok (.iconst 0, 1) := by decide +kernel
theorem dX5_init_39 : decode cX5_init 39 = .ok (.putfield 32, 3) := by decide +kernel
theorem dX5_init_42 : decode cX5_init 42 = .ok (.aload_n 0, 1) := by decide +kernel
theorem dX5_init_43 : decode cX5_init 43 = .ok (.bipush 8, 2) := by decide +kernel
theorem dX5_init_45 : decode cX5_init 45 = .ok (.newarray .int, 2) := by decide +kernel
theorem dX5_init_47 : decode cX5_init 47 = .ok (.putfield 35, 3) := by decide +kernel
theorem dX5_init_50 : decode cX5_init 50 = .ok (.aload_n 0, 1) := by decide +kernel
theorem dX5_init_51 : decode cX5_init 51 = .ok (.bipush 8, 2) := by decide +kernel
theorem dX5_init_53 : decode cX5_init 53 = .ok (.bipush 45, 2) := by decide +kernel
theorem dX5_init_55 : decode cX5_init 55 = .ok (.multianewarray 38 2, 4) := by decide +kernel
theorem dX5_init_59 : decode cX5_init 59 = .ok (.putfield 40, 3) := by decide +kernel
theorem dX5_init_62 : decode cX5_init 62 = .ok (.aload_n 0, 1) := by decide +kernel
theorem dX5_init_63 : decode cX5_init 63 = .ok (.bipush 45, 2) := by decide +kernel
theorem dX5_init_65 : decode cX5_init 65 = .ok (.newarray .int, 2) := by decide +kernel
theorem dX5_init_67 : decode cX5_init 67 = .ok (.putfield 43, 3) := by decide +kernel
theorem dX5_init_70 : decode cX5_init 70 = .ok (.aload_n 0, 1) := by decide +kernel
theorem dX5_init_71 : decode cX5_init 71 = .ok (.bipush 46, 2) := by decide +kernel
theorem dX5_init_73 : decode cX5_init 73 = .ok (.newarray .int, 2) := by decide +kernel
theorem dX5_init_75 : decode cX5_init 75 = .ok (.putfield 46, 3) := by decide +kernel
theorem dX5_init_78 : decode cX5_init 78 = .ok (.return_, 1) := by decide +kernel
theorem dX5_clear_0 : decode cX5_clear 0 = .ok (.aload_n 0, 1) := by decide +kernel
theorem dX5_clear_1 : decode cX5_clear 1 = .ok (.getfield 12, 3) := by decide +kernel
theorem dX5_clear_4 : decode cX5_clear 4 = .ok (.invokevirtual 49, 3) := by decide +kernel
theorem dX5_clear_7 : decode cX5_clear 7 = .ok (.aload_n 0, 1) := by decide +kernel
theorem dX5_clear_8 : decode cX5_clear 8 = .ok (.iconst 0, 1) := by decide +kernel
theorem dX5_clear_9 : decode cX5_clear 9 = .ok (.putfield 18, 3) := by decide +kernel
theorem dX5_clear_12 : decode cX5_clear 12 = .ok (.aload_n 0, 1) := by decide +kernel
theorem dX5_clear_13 : decode cX5_clear 13 = .ok (.getfield 22, 3) := by decide +kernel
theorem dX5_clear_16 : decode cX5_clear 16 = .ok (.iconst 0, 1) := by decide +kernel
theorem dX5_clear_17 : decode cX5_clear 17 = .ok (.invokestatic 52, 3) := by decide +kernel
theorem dX5_clear_20 : decode cX5_clear 20 = .ok (.aload_n 0, 1) := by decide +kernel
theorem dX5_clear_21 : decode cX5_clear 21 = .ok (.iconst 0, 1) := by decide +kernel
theorem dX5_clear_22 : decode cX5_clear 22 = .ok (.putfield 26, 3) := by decide +kernel
theorem dX5_clear_25 : decode cX5_clear 25 = .ok (.aload_n 0, 1) := by decide +kernel
theorem dX5_clear_26 : decode cX5_clear 26 = .ok (.iconst 0, 1) := by decide +kernel
theorem dX5_clear_27 : decode cX5_clear 27 = .ok (.putfield 29, 3) := by decide +kernel
theorem dX5_clear_30 : decode cX5_clear 30 = .ok (.aload_n 0, 1) := by decide +kernel
theorem dX5_clear_31 : decode cX5_clear 31 = .ok (.iconst 0, 1) := by decide +kernel
theorem dX5_clear_32 : decode cX5_clear 32 = .ok (.putfield 32, 3) := by decide +kernel
theorem dX5_clear_35 : decode cX5_clear 35 = .ok (.return_, 1) := by decide +kernel
theorem dX5_copyFrom_0 : decode cX5_copyFrom 0 = .ok (.aload_n 0, 1) := by decide +kernel
theorem dX5_copyFrom_1 : decode cX5_copyFrom 1 = .ok (.getfield 12, 3) := by decide +kernel
theorem dX5_copyFrom_4 : decode cX5_copyFrom 4 = .ok (.aload_n 1, 1) := by decide +kernel
theorem dX5_copyFrom_5 : decode cX5_copyFrom 5 = .ok (.getfield 12, 3) := by decide +kernel
theorem dX5_copyFrom_8 : decode cX5_copyFrom 8 = .ok (.invokevirtual 58, 3) := by decide +kernel
theorem dX5_copyFrom_11 : decode cX5_copyFrom 11 = .ok (.aload_n 0, 1) := by decide +kernel
theorem dX5_copyFrom_12 : decode cX5_copyFrom 12 = .ok (.aload_n 1, 1) := by decide +kernel
theorem dX5_copyFrom_13 : decode cX5_copyFrom 13 = .ok (.getfield 18, 3) := by decide +kernel
theorem dX5_copyFrom_16 : decode cX5_copyFrom 16 = .ok (.putfield 18, 3) := by decide +kernel
theorem dX5_copyFrom_19 : decode cX5_copyFrom 19 = .ok (.aload_n 1, 1) := by decide +kernel
theorem dX5_copyFrom_20 : decode cX5_copyFrom 20 = .ok (.getfield 22, 3) := by decide +kernel
theorem dX5_copyFrom_23 : decode cX5_copyFrom 23 = .ok (.iconst 0, 1) := by decide +kernel
theorem dX5_copyFrom_24 : decode cX5_copyFrom 24 = .ok (.aload_n 0, 1) := by decide +kernel
theorem dX5_copyFrom_25 : decode cX5_copyFrom 25 = .ok (.getfield 22, 3) := by decide +kernel
theorem dX5_copyFrom_28 : decode cX5_copyFrom 28 = .ok (.iconst 0, 1) := by decide +kernel
theorem dX5_copyFrom_29 : decode cX5_copyFrom 29 = .ok (.iconst 3, 1) := by decide +kernel
theorem dX5_copyFrom_30 : decode cX5_copyFrom 30 = .ok (.invokestatic 62, 3) := by decide +kernel
theorem dX5_copyFrom_33 : decode cX5_copyFrom 33 = .ok (.aload_n 0, 1) := by decide +kernel
theorem dX5_copyFrom_34 : decode cX5_copyFrom 34 = .ok (.aload_n 1, 1) := by decide +kernel
theorem dX5_copyFrom_35 : decode cX5_copyFrom 35 = .ok (.getfield 26, 3) := by decide +kernel
theorem dX5_copyFrom_38 : decode cX5_copyFrom 38 = .ok (.putfield 26, 3) := by decide +kernel
theorem dX5_copyFrom_41 : decode cX5_copyFrom 41 = .ok (.aload_n 0, 1) := by decide +kernel
theorem dX5_copyFrom_42 : decode cX5_copyFrom 42 = .ok (.aload_n 1, 1) := by decide +kernel
theorem dX5_copyFrom_43 : decode cX5_copyFrom 43 = .ok (.getfield 29, 3) := by decide +kernel
theorem dX5_copyFrom_46 : decode cX5_copyFrom 46 = .ok (.putfield 29, 3) := by decide +kernel
theorem dX5_copyFrom_49 : decode cX5_copyFrom 49 = .ok (.aload_n 0, 1) := by decide +kernel
theorem dX5_copyFrom_50 : decode cX5_copyFrom 50 = .ok (.aload_n 1, 1) := by decide +kernel
theorem dX5_copyFrom_51 : decode cX5_copyFrom 51 = .ok (.getfield 32, 3) := by decide +kernel
theorem dX5_copyFrom_54 : decode cX5_copyFrom 54 = .ok (.putfield 32, 3) := by decide +kernel
theorem dX5_copyFrom_57 : decode cX5_copyFrom 57 = .ok (.aload_n 1, 1) := by decide +kernel
theorem dX5_copyFrom_58 : decode cX5_copyFrom 58 = .ok (.getfield 35, 3) := by decide +kernel
theorem dX5_copyFrom_61 : decode cX5_copyFrom 61 = .ok (.iconst 0, 1) := by decide +kernel
theorem dX5_copyFrom_62 : decode cX5_copyFrom 62 = .ok (.aload_n 0, 1) := by decide +kernel
theorem dX5_copyFrom_63 : decode cX5_copyFrom 63 = .ok (.getfield 35, 3) := by decide +kernel
theorem dX5_copyFrom_66 : decode cX5_copyFrom 66 = .ok (.iconst 0, 1) := by decide +kernel
theorem dX5_copyFrom_67 : decode cX5_copyFrom 67 = .ok (.bipush 8, 2) := by decide +kernel
theorem dX5_copyFrom_69 : decode cX5_copyFrom 69 = .ok (.invokestatic 62, 3) := by decide +kernel
theorem dX5_copyFrom_72 : decode cX5_copyFrom 72 = .ok (.iconst 0, 1) := by decide +kernel
theorem dX5_copyFrom_73 : decode cX5_copyFrom 73 = .ok (.istore_n 2, 1) := by decide +kernel
theorem dX5_copyFrom_74 : decode cX5_copyFrom 74 = .ok (.iload_n 2, 1) := by decide +kernel
theorem dX5_copyFrom_75 : decode cX5_copyFrom 75 = .ok (.aload_n 0, 1) := by decide +kernel
theorem dX5_copyFrom_76 : decode cX5_copyFrom 76 = .ok (.getfield 32, 3) := by decide +kernel
theorem dX5_copyFrom_79 : decode cX5_copyFrom 79 = .ok (.if_icmp .ge 28, 3) := by decide +kernel
theorem dX5_copyFrom_82 : decode cX5_copyFrom 82 = .ok (.aload_n 1, 1) := by decide +kernel
theorem dX5_copyFrom_83 : decode cX5_copyFrom 83 = .ok (.getfield 40, 3) := by decide +kernel
theorem dX5_copyFrom_86 : decode cX5_copyFrom 86 = .ok (.iload_n 2, 1) := by decide +kernel
theorem dX5_copyFrom_87 : decode cX5_copyFrom 87 = .ok (.aaload, 1) := by decide +kernel
theorem dX5_copyFrom_88 : decode cX5_copyFrom 88 = .ok (.iconst 0, 1) := by decide +kernel
theorem dX5_copyFrom_89 : decode cX5_copyFrom 89 = .ok (.aload_n 0, 1) := by decide +kernel
theorem dX5_copyFrom_90 : decode cX5_copyFrom 90 = .ok (.getfield 40, 3) := by decide +kernel
theorem dX5_copyFrom_93 : decode cX5_copyFrom 93 = .ok (.iload_n 2, 1) := by decide +kernel
theorem dX5_copyFrom_94 : decode cX5_copyFrom 94 = .ok (.aaload, 1) := by decide +kernel
theorem dX5_copyFrom_95 : decode cX5_copyFrom 95 = .ok (.iconst 0, 1) := by decide +kernel
theorem dX5_copyFrom_96 : decode cX5_copyFrom 96 = .ok (.bipush 45, 2) := by decide +kernel
theorem dX5_copyFrom_98 : decode cX5_copyFrom 98 = .ok (.invokestatic 62, 3) := by decide +kernel
theorem dX5_copyFrom_101 : decode cX5_copyFrom 101 = .ok (.iinc 2 1, 3) := by decide +kernel
theorem dX5_copyFrom_104 : decode cX5_copyFrom 104 = .ok (.goto (-30), 3) := by decide +kernel
theorem dX5_copyFrom_107 : decode cX5_copyFrom 107 = .ok (.aload_n 1, 1) := by decide +kernel
theorem dX5_copyFrom_108 : decode cX5_copyFrom 108 = .ok (.getfield 43, 3) := by decide +kernel
theorem dX5_copyFrom_111 : decode cX5_copyFrom 111 = .ok (.iconst 0, 1) := by decide +kernel
theorem dX5_copyFrom_112 : decode cX5_copyFrom 112 = .ok (.aload_n 0, 1) := by decide +kernel
theorem dX5_copyFrom_113 : decode cX5_copyFrom 113 = .ok (.getfield 43, 3) := by decide +kernel
theorem dX5_copyFrom_116 : decode cX5_copyFrom 116 = .ok (.iconst 0, 1) := by decide +kernel
theorem dX5_copyFrom_117 : decode cX5_copyFrom 117 = .ok (.bipush 45, 2) := by decide +kernel
theorem dX5_copyFrom_119 : decode cX5_copyFrom 119 = .ok (.invokestatic 62, 3) := by decide +kernel
theorem dX5_copyFrom_122 : decode cX5_copyFrom 122 = .ok (.aload_n 1, 1) := by decide +kernel
theorem dX5_copyFrom_123 : decode cX5_copyFrom 123 = .ok (.getfield 46, 3) := by decide +kernel
theorem dX5_copyFrom_126 : decode cX5_copyFrom 126 = .ok (.iconst 0, 1) := by decide +kernel
theorem dX5_copyFrom_127 : decode cX5_copyFrom 127 = .ok (.aload_n 0, 1) := by decide +kernel
theorem dX5_copyFrom_128 : decode cX5_copyFrom 128 = .ok (.getfield 46, 3) := by decide +kernel
theorem dX5_copyFrom_131 : decode cX5_copyFrom 131 = .ok (.iconst 0, 1) := by decide +kernel
theorem dX5_copyFrom_132 : decode cX5_copyFrom 132 = .ok (.bipush 46, 2) := by decide +kernel
theorem dX5_copyFrom_134 : decode cX5_copyFrom 134 = .ok (.invokestatic 62, 3) := by decide +kernel
theorem dX5_copyFrom_137 : decode cX5_copyFrom 137 = .ok (.return_, 1) := by decide +kernel
theorem dX5_hasSold_0 : decode cX5_hasSold 0 = .ok (.iconst 0, 1) := by decide +kernel
theorem dX5_hasSold_1 : decode cX5_hasSold 1 = .ok (.istore_n 2, 1) := by decide +kernel
theorem dX5_hasSold_2 : decode cX5_hasSold 2 = .ok (.iload_n 2, 1) := by decide +kernel
theorem dX5_hasSold_3 : decode cX5_hasSold 3 = .ok (.aload_n 0, 1) := by decide +kernel
theorem dX5_hasSold_4 : decode cX5_hasSold 4 = .ok (.getfield 32, 3) := by decide +kernel
theorem dX5_hasSold_7 : decode cX5_hasSold 7 = .ok (.if_icmp .ge 24, 3) := by decide +kernel
theorem dX5_hasSold_10 : decode cX5_hasSold 10 = .ok (.aload_n 0, 1) := by decide +kernel
theorem dX5_hasSold_11 : decode cX5_hasSold 11 = .ok (.getfield 40, 3) := by decide +kernel
theorem dX5_hasSold_14 : decode cX5_hasSold 14 = .ok (.iload_n 2, 1) := by decide +kernel
theorem dX5_hasSold_15 : decode cX5_hasSold 15 = .ok (.aaload, 1) := by decide +kernel
theorem dX5_hasSold_16 : decode cX5_hasSold 16 = .ok (.aload_n 1, 1) := by decide +kernel
theorem dX5_hasSold_17 : decode cX5_hasSold 17 = .ok (.invokestatic 68, 3) := by decide +kernel
theorem dX5_hasSold_20 : decode cX5_hasSold 20 = .ok (.ifCond .eq 5, 3) := by decide +kernel
theorem dX5_hasSold_23 : decode cX5_hasSold 23 = .ok (.iconst 1, 1) := by decide +kernel
theorem dX5_hasSold_24 : decode cX5_hasSold 24 = .ok (.ireturn, 1) := by decide +kernel
theorem dX5_hasSold_25 : decode cX5_hasSold 25 = .ok (.iinc 2 1, 3) := by decide +kernel
theorem dX5_hasSold_28 : decode cX5_hasSold 28 = .ok (.goto (-26), 3) := by decide +kernel
theorem dX5_hasSold_31 : decode cX5_hasSold 31 = .ok (.iconst 0, 1) := by decide +kernel
theorem dX5_hasSold_32 : decode cX5_hasSold 32 = .ok (.ireturn, 1) := by decide +kernel
theorem dX5_addSold_0 : decode cX5_addSold 0 = .ok (.aload_n 0, 1) := by decide +kernel
theorem dX5_addSold_1 : decode cX5_addSold 1 = .ok (.getfield 32, 3) := by decide +kernel
theorem dX5_addSold_4 : decode cX5_addSold 4 = .ok (.bipush 8, 2) := by decide +kernel
theorem dX5_addSold_6 : decode cX5_addSold 6 = .ok (.if_icmp .ge 40, 3) := by decide +kernel
theorem dX5_addSold_9 : decode cX5_addSold 9 = .ok (.aload_n 0, 1) := by decide +kernel
theorem dX5_addSold_10 : decode cX5_addSold 10 = .ok (.getfield 35, 3) := by decide +kernel
theorem dX5_addSold_13 : decode cX5_addSold 13 = .ok (.aload_n 0, 1) := by decide +kernel
theorem dX5_addSold_14 : decode cX5_addSold 14 = .ok (.getfield 32, 3) := by decide +kernel
theorem dX5_addSold_17 : decode cX5_addSold 17 = .ok (.iload_n 1, 1) := by decide +kernel
theorem dX5_addSold_18 : decode cX5_addSold 18 = .ok (.iastore, 1) := by decide +kernel
theorem dX5_addSold_19 : decode cX5_addSold 19 = .ok (.aload_n 2, 1) := by decide +kernel
theorem dX5_addSold_20 : decode cX5_addSold 20 = .ok (.iconst 0, 1) := by decide +kernel
theorem dX5_addSold_21 : decode cX5_addSold 21 = .ok (.aload_n 0, 1) := by decide +kernel
theorem dX5_addSold_22 : decode cX5_addSold 22 = .ok (.getfield 40, 3) := by decide +kernel
theorem dX5_addSold_25 : decode cX5_addSold 25 = .ok (.aload_n 0, 1) := by decide +kernel
theorem dX5_addSold_26 : decode cX5_addSold 26 = .ok (.getfield 32, 3) := by decide +kernel
theorem dX5_addSold_29 : decode cX5_addSold 29 = .ok (.aaload, 1) := by decide +kernel
theorem dX5_addSold_30 : decode cX5_addSold 30 = .ok (.iconst 0, 1) := by decide +kernel
theorem dX5_addSold_31 : decode cX5_addSold 31 = .ok (.bipush 45, 2) := by decide +kernel
theorem dX5_addSold_33 : decode cX5_addSold 33 = .ok (.invokestatic 62, 3) := by decide +kernel
theorem dX5_addSold_36 : decode cX5_addSold 36 = .ok (.aload_n 0, 1) := by decide +kernel
theorem dX5_addSold_37 : decode cX5_addSold 37 = .ok (.dup, 1) := by decide +kernel
theorem dX5_addSold_38 : decode cX5_addSold 38 = .ok (.getfield 32, 3) := by decide +kernel
theorem dX5_addSold_41 : decode cX5_addSold 41 = .ok (.iconst 1, 1) := by decide +kernel
theorem dX5_addSold_42 : decode cX5_addSold 42 = .ok (.iadd, 1) := by decide +kernel
theorem dX5_addSold_43 : decode cX5_addSold 43 = .ok (.putfield 32, 3) := by decide +kernel
theorem dX5_addSold_46 : decode cX5_addSold 46 = .ok (.return_, 1) := by decide +kernel
theorem dX5_noteTurns_0 : decode cX5_noteTurns 0 = .ok (.aload_n 0, 1) := by decide +kernel
theorem dX5_noteTurns_1 : decode cX5_noteTurns 1 = .ok (.getfield 43, 3) := by decide +kernel
theorem dX5_noteTurns_4 : decode cX5_noteTurns 4 = .ok (.aload_n 0, 1) := by decide +kernel
theorem dX5_noteTurns_5 : decode cX5_noteTurns 5 = .ok (.getfield 12, 3) := by decide +kernel
theorem dX5_noteTurns_8 : decode cX5_noteTurns 8 = .ok (.getfield 72, 3) := by decide +kernel
theorem dX5_noteTurns_11 : decode cX5_noteTurns 11 = .ok (.aload_n 0, 1) := by decide +kernel
theorem dX5_noteTurns_12 : decode cX5_noteTurns 12 = .ok (.getfield 46, 3) := by decide +kernel
theorem dX5_noteTurns_15 : decode cX5_noteTurns 15 = .ok (.invokestatic 75, 3) := by decide +kernel
theorem dX5_noteTurns_18 : decode cX5_noteTurns 18 = .ok (.return_, 1) := by decide +kernel
theorem dX6_init_0 : decode cX6_init 0 = .ok (.aload_n 0, 1) := by decide +kernel
theorem dX6_init_1 : decode cX6_init 1 = .ok (.invokespecial 3, 3) := by decide +kernel
theorem dX6_init_4 : decode cX6_init 4 = .ok (.aload_n 0, 1) := by decide +kernel
theorem dX6_init_5 : decode cX6_init 5 = .ok (.bipush 64, 2) := by decide +kernel
theorem dX6_init_7 : decode cX6_init 7 = .ok (.newarray .int, 2) := by decide +kernel
theorem dX6_init_9 : decode cX6_init 9 = .ok (.putfield 11, 3) := by decide +kernel
theorem dX6_init_12 : decode cX6_init 12 = .ok (.aload_n 0, 1) := by decide +kernel
theorem dX6_init_13 : decode cX6_init 13 = .ok (.iconst 0, 1) := by decide +kernel
theorem dX6_init_14 : decode cX6_init 14 = .ok (.putfield 15, 3) := by decide +kernel
theorem dX6_init_17 : decode cX6_init 17 = .ok (.aload_n 0, 1) := by decide +kernel
theorem dX6_init_18 : decode cX6_init 18 = .ok (.iconst 0, 1) := by decide +kernel
theorem dX6_init_19 : decode cX6_init 19 = .ok (.putfield 19, 3) := by decide +kernel
theorem dX6_init_22 : decode cX6_init 22 = .ok (.aload_n 0, 1) := by decide +kernel
theorem dX6_init_23 : decode cX6_init 23 = .ok (.iconst 0, 1) := by decide +kernel
theorem dX6_init_24 : decode cX6_init 24 = .ok (.putfield 22, 3) := by decide +kernel
theorem dX6_init_27 : decode cX6_init 27 = .ok (.aload_n 0, 1) := by decide +kernel
theorem dX6_init_28 : decode cX6_init 28 = .ok (.iconst 0, 1) := by decide +kernel
theorem dX6_init_29 : decode cX6_init 29 = .ok (.putfield 25, 3) := by decide +kernel
theorem dX6_init_32 : decode cX6_init 32 = .ok (.aload_n 0, 1) := by decide +kernel
theorem dX6_init_33 : decode cX6_init 33 = .ok (.iconst 0, 1) := by decide +kernel
theorem dX6_init_34 : decode cX6_init 34 = .ok (.putfield 28, 3) := by decide +kernel
theorem dX6_init_37 : decode cX6_init 37 = .ok (.return_, 1) := by decide +kernel
theorem dX6_packed_0 : decode cX6_packed 0 = .ok (.iload_n 0, 1) := by decide +kernel
theorem dX6_packed_1 : decode cX6_packed 1 = .ok (.ifCond .lt 8, 3) := by decide +kernel
theorem dX6_packed_4 : decode cX6_packed 4 = .ok (.iload_n 0, 1) := by decide +kernel
theorem dX6_packed_5 : decode cX6_packed 5 = .ok (.iconst 5, 1) := by decide +kernel
theorem dX6_packed_6 : decode cX6_packed 6 = .ok (.if_icmp .lt 7, 3) := by decide +kernel
theorem dX6_packed_9 : decode cX6_packed 9 = .ok (.iconst 0, 1) := by decide +kernel
theorem dX6_packed_10 : decode cX6_packed 10 = .ok (.goto 10, 3) := by decide +kernel
theorem dX6_packed_13 : decode cX6_packed 13 = .ok (.iload_n 1, 1) := by decide +kernel
theorem dX6_packed_14 : decode cX6_packed 14 = .ok (.iconst 5, 1) := by decide +kernel
theorem dX6_packed_15 : decode cX6_packed 15 = .ok (.iconst 4, 1) := by decide +kernel
theorem dX6_packed_16 : decode cX6_packed 16 = .ok (.iload_n 0, 1) := by decide +kernel
theorem dX6_packed_17 : decode cX6_packed 17 = .ok (.isub, 1) := by decide +kernel
theorem dX6_packed_18 : decode cX6_packed 18 = .ok (.imul, 1) := by decide +kernel
theorem dX6_packed_19 : decode cX6_packed 19 = .ok (.ishl, 1) := by decide +kernel
theorem dX6_packed_20 : decode cX6_packed 20 = .ok (.ireturn, 1) := by decide +kernel
theorem dX6_digit_0 : decode cX6_digit 0 = .ok (.iload_n 1, 1) := by decide +kernel
theorem dX6_digit_1 : decode cX6_digit 1 = .ok (.ifCond .lt 8, 3) := by decide +kernel
theorem dX6_digit_4 : decode cX6_digit 4 = .ok (.iload_n 1, 1) := by decide +kernel
theorem dX6_digit_5 : decode cX6_digit 5 = .ok (.iconst 5, 1) := by decide +kernel
theorem dX6_digit_6 : decode cX6_digit 6 = .ok (.if_icmp .lt 7, 3) := by decide +kernel
theorem dX6_digit_9 : decode cX6_digit 9 = .ok (.iconst 0, 1) := by decide +kernel
theorem dX6_digit_10 : decode cX6_digit 10 = .ok (.goto 13, 3) := by decide +kernel
theorem dX6_digit_13 : decode cX6_digit 13 = .ok (.iload_n 0, 1) := by decide +kernel
theorem dX6_digit_14 : decode cX6_digit 14 = .ok (.iconst 5, 1) := by decide +kernel
theorem dX6_digit_15 : decode cX6_digit 15 = .ok (.iconst 4, 1) := by decide +kernel
theorem dX6_digit_16 : decode cX6_digit 16 = .ok (.iload_n 1, 1) := by decide +kernel
theorem dX6_digit_17 : decode cX6_digit 17 = .ok (.isub, 1) := by decide +kernel
theorem dX6_digit_18 : decode cX6_digit 18 = .ok (.imul, 1) := by decide +kernel
theorem dX6_digit_19 : decode cX6_digit 19 = .ok (.ishr, 1) := by decide +kernel
theorem dX6_digit_20 : decode cX6_digit 20 = .ok (.bipush 31, 2) := by decide +kernel
theorem dX6_digit_22 : decode cX6_digit 22 = .ok (.iand, 1) := by decide +kernel
theorem dX6_digit_23 : decode cX6_digit 23 = .ok (.ireturn, 1) := by decide +kernel
theorem dX6_beMixes_0 : decode cX6_beMixes 0 = .ok (.aload_n 0, 1) := by decide +kernel
theorem dX6_beMixes_1 : decode cX6_beMixes 1 = .ok (.iload_n 1, 1) := by decide +kernel
theorem dX6_beMixes_2 : decode cX6_beMixes 2 = .ok (.iconst 1, 1) := by decide +kernel
theorem dX6_beMixes_3 : decode cX6_beMixes 3 = .ok (.iload_n 2, 1) := by decide +kernel
theorem dX6_beMixes_4 : decode cX6_beMixes 4 = .ok (.iload_n 2, 1) := by decide +kernel
theorem dX6_beMixes_5 : decode cX6_beMixes 5 = .ok (.iload_n 3, 1) := by decide +kernel
theorem dX6_beMixes_6 : decode cX6_beMixes 6 = .ok (.imul, 1) := by decide +kernel
theorem dX6_beMixes_7 : decode cX6_beMixes 7 = .ok (.invokevirtual 31, 3) := by decide +kernel
theorem dX6_beMixes_10 : decode cX6_beMixes 10 = .ok (.iconst 1, 1) := by decide +kernel
theorem dX6_beMixes_11 : decode cX6_beMixes 11 = .ok (.istore 4, 2) := by decide +kernel
theorem dX6_beMixes_13 : decode cX6_beMixes 13 = .ok (.iconst 0, 1) := by decide +kernel
theorem dX6_beMixes_14 : decode cX6_beMixes 14 = .ok (.istore 5, 2) := by decide +kernel
theorem dX6_beMixes_16 : decode cX6_beMixes 16 = .ok (.iload 5, 2) := by decide +kernel
theorem dX6_beMixes_18 : decode cX6_beMixes 18 = .ok (.iload_n 1, 1) := by decide +kernel
theorem dX6_beMixes_19 : decode cX6_beMixes 19 = .ok (.if_icmp .ge 15, 3) := by decide +kernel
theorem dX6_beMixes_22 : decode cX6_beMixes 22 = .ok (.iload 4, 2) := by decide +kernel
theorem dX6_beMixes_24 : decode cX6_beMixes 24 = .ok (.iload_n 2, 1) := by decide +kernel
theorem dX6_beMixes_25 : decode cX6_beMixes 25 = .ok (.imul, 1) := by decide +kernel
theorem dX6_beMixes_26 : decode cX6_beMixes 26 = .ok (.istore 4, 2) := by decide +kernel
theorem dX6_beMixes_28 : decode cX6_beMixes 28 = .ok (.iinc 5 1, 3) := by decide +kernel
theorem dX6_beMixes_31 : decode cX6_beMixes 31 = .ok (.goto (-15), 3) := by decide +kernel
theorem dX6_beMixes_34 : decode cX6_beMixes 34 = .ok (.iconst 0, 1) := by decide +kernel
theorem dX6_beMixes_35 : decode cX6_beMixes 35 = .ok (.istore 5, 2) := by decide +kernel
theorem dX6_beMixes_37 : decode cX6_beMixes 37 = .ok (.iload 5, 2) := by decide +kernel
theorem dX6_beMixes_39 : decode cX6_beMixes 39 = .ok (.iload 4, 2) := by decide +kernel
theorem dX6_beMixes_41 : decode cX6_beMixes 41 = .ok (.if_icmp .ge 64, 3) := by decide +kernel
theorem dX6_beMixes_44 : decode cX6_beMixes 44 = .ok (.iload 5, 2) := by decide +kernel
theorem dX6_beMixes_46 : decode cX6_beMixes 46 = .ok (.istore 6, 2) := by decide +kernel
theorem dX6_beMixes_48 : decode cX6_beMixes 48 = .ok (.iconst 0, 1) := by decide +kernel
theorem dX6_beMixes_49 : decode cX6_beMixes 49 = .ok (.istore 7, 2) := by decide +kernel
theorem dX6_beMixes_51 : decode cX6_beMixes 51 = .ok (.iload_n 1, 1) := by decide +kernel
theorem dX6_beMixes_52 : decode cX6_beMixes 52 = .ok (.iconst 1, 1) := by decide +kernel
theorem dX6_beMixes_53 : decode cX6_beMixes 53 = .ok (.isub, 1) := by decide +kernel
theorem dX6_beMixes_54 : decode cX6_beMixes 54 = .ok (.istore 8, 2) := by decide +kernel
theorem dX6_beMixes_56 : decode cX6_beMixes 56 = .ok (.iload 8, 2) := by decide +kernel
theorem dX6_beMixes_58 : decode cX6_beMixes 58 = .ok (.ifCond .lt 35, 3) := by decide +kernel
theorem dX6_beMixes_61 : decode cX6_beMixes 61 = .ok (.iload_n 2, 1) := by decide +kernel
theorem dX6_beMixes_62 : decode cX6_beMixes 62 = .ok (.ifCond .le 31, 3) := by decide +kernel
theorem dX6_beMixes_65 : decode cX6_beMixes 65 = .ok (.iload 7, 2) := by decide +kernel
theorem dX6_beMixes_67 : decode cX6_beMixes 67 = .ok (.iload 8, 2) := by decide +kernel
theorem dX6_beMixes_69 : decode cX6_beMixes 69 = .ok (.iload 6, 2) := by decide +kernel
theorem dX6_beMixes_71 : decode cX6_beMixes 71 = .ok (.iload_n 2, 1) := by decide +kernel
theorem dX6_beMixes_72 : decode cX6_beMixes 72 = .ok (.irem, 1) := by decide +kernel
theorem dX6_beMixes_73 : decode cX6_beMixes 73 = .ok (.iconst 1, 1) := by decide +kernel
theorem dX6_beMixes_74 : decode cX6_beMixes 74 = .ok (.iadd, 1) := by decide +kernel
theorem dX6_beMixes_75 : decode cX6_beMixes 75 = .ok (.invokestatic 35, 3) := by decide +kernel
theorem dX6_beMixes_78 : decode cX6_beMixes 78 = .ok (.iadd, 1) := by decide +kernel
theorem dX6_beMixes_79 : decode cX6_beMixes 79 = .ok (.istore 7, 2) := by decide +kernel
theorem dX6_beMixes_81 : decode cX6_beMixes 81 = .ok (.iload 6, 2) := by decide +kernel
theorem dX6_beMixes_83 : decode cX6_beMixes 83 = .ok (.iload_n 2, 1) := by decide +kernel
theorem dX6_beMixes_84 : decode cX6_beMixes 84 = .ok (.idiv, 1) := by decide +kernel
theorem dX6_beMixes_85 : decode cX6_beMixes 85 = .ok (.istore 6, 2) := by decide +kernel
theorem dX6_beMixes_87 : decode cX6_beMixes 87 = .ok (.iinc 8 (-1), 3) := by decide +kernel
theorem dX6_beMixes_90 : decode cX6_beMixes 90 = .ok (.goto (-34), 3) := by decide +kernel
theorem dX6_beMixes_93 : decode cX6_beMixes 93 = .ok (.aload_n 0, 1) := by decide +kernel
theorem dX6_beMixes_94 : decode cX6_beMixes 94 = .ok (.iload 7, 2) := by decide +kernel
theorem dX6_beMixes_96 : decode cX6_beMixes 96 = .ok (.invokevirtual 39, 3) := by decide +kernel
theorem dX6_beMixes_99 : decode cX6_beMixes 99 = .ok (.iinc 5 1, 3) := by decide +kernel
theorem dX6_beMixes_102 : decode cX6_beMixes 102 = .ok (.goto (-65), 3) := by decide +kernel
theorem dX6_beMixes_105 : decode cX6_beMixes 105 = .ok (.return_, 1) := by decide +kernel
theorem dX6_beSets_0 : decode cX6_beSets 0 = .ok (.aload_n 0, 1) := by decide +kernel
theorem dX6_beSets_1 : decode cX6_beSets 1 = .ok (.iload_n 1, 1) := by decide +kernel
theorem dX6_beSets_2 : decode cX6_beSets 2 = .ok (.iconst 0, 1) := by decide +kernel
theorem dX6_beSets_3 : decode cX6_beSets 3 = .ok (.iconst 1, 1) := by decide +kernel
theorem dX6_beSets_4 : decode cX6_beSets 4 = .ok (.iload_n 2, 1) := by decide +kernel
theorem dX6_beSets_5 : decode cX6_beSets 5 = .ok (.invokevirtual 31, 3) := by decide +kernel
theorem dX6_beSets_8 : decode cX6_beSets 8 = .ok (.iconst 0, 1) := by decide +kernel
theorem dX6_beSets_9 : decode cX6_beSets 9 = .ok (.istore_n 3, 1) := by decide +kernel
theorem dX6_beSets_10 : decode cX6_beSets 10 = .ok (.iload_n 3, 1) := by decide +kernel
theorem dX6_beSets_11 : decode cX6_beSets 11 = .ok (.iconst 1, 1) := by decide +kernel
theorem dX6_beSets_12 : decode cX6_beSets 12 = .ok (.iload_n 1, 1) := by decide +kernel
theorem dX6_beSets_13 : decode cX6_beSets 13 = .ok (.ishl, 1) := by decide +kernel
theorem dX6_beSets_14 : decode cX6_beSets 14 = .ok (.if_icmp .ge 49, 3) := by decide +kernel
theorem dX6_beSets_17 : decode cX6_beSets 17 = .ok (.iconst 0, 1) := by decide +kernel
theorem dX6_beSets_18 : decode cX6_beSets 18 = .ok (.istore 4, 2) := by decide +kernel
theorem dX6_beSets_20 : decode cX6_beSets 20 = .ok (.iconst 0, 1) := by decide +kernel
theorem dX6_beSets_21 : decode cX6_beSets 21 = .ok (.istore 5, 2) := by decide +kernel
theorem dX6_beSets_23 : decode cX6_beSets 23 = .ok (.iload 5, 2) := by decide +kernel
theorem dX6_beSets_25 : decode cX6_beSets 25 = .ok (.iload_n 1, 1) := by decide +kernel
theorem dX6_beSets_26 : decode cX6_beSets 26 = .ok (.if_icmp .ge 25, 3) := by decide +kernel
theorem dX6_beSets_29 : decode cX6_beSets 29 = .ok (.iload 4, 2) := by decide +kernel
theorem dX6_beSets_31 : decode cX6_beSets 31 = .ok (.iload 5, 2) := by decide +kernel
theorem dX6_beSets_33 : decode cX6_beSets 33 = .ok (.iload_n 3, 1) := by decide +kernel
theorem dX6_beSets_34 : decode cX6_beSets 34 = .ok (.iload 5, 2) := by decide +kernel
theorem dX6_beSets_36 : decode cX6_beSets 36 = .ok (.ishr, 1) := by decide +kernel
theorem dX6_beSets_37 : decode cX6_beSets 37 = .ok (.iconst 1, 1) := by decide +kernel
theorem dX6_beSets_38 : decode cX6_beSets 38 = .ok (.iand, 1) := by decide +kernel
theorem dX6_beSets_39 : decode cX6_beSets 39 = .ok (.invokestatic 35, 3) := by decide +kernel
theorem dX6_beSets_42 : decode cX6_beSets 42 = .ok (.iadd, 1) := by decide +kernel
theorem dX6_beSets_43 : decode cX6_beSets 43 = .ok (.istore 4, 2) := by decide +kernel
theorem dX6_beSets_45 : decode cX6_beSets 45 = .ok (.iinc 5 1, 3) := by decide +kernel
theorem dX6_beSets_48 : decode cX6_beSets 48 = .ok (.goto (-25), 3) := by decide +kernel
theorem dX6_beSets_51 : decode cX6_beSets 51 = .ok (.aload_n 0, 1) := by decide +kernel
theorem dX6_beSets_52 : decode cX6_beSets 52 = .ok (.iload 4, 2) := by decide +kernel
theorem dX6_beSets_54 : decode cX6_beSets 54 = .ok (.invokevirtual 39, 3) := by decide +kernel
theorem dX6_beSets_57 : decode cX6_beSets 57 = .ok (.iinc 3 1, 3) := by decide +kernel
theorem dX6_beSets_60 : decode cX6_beSets 60 = .ok (.goto (-50), 3) := by decide +kernel
theorem dX6_beSets_63 : decode cX6_beSets 63 = .ok (.return_, 1) := by decide +kernel
theorem dX6_begin_0 : decode cX6_begin 0 = .ok (.aload_n 0, 1) := by decide +kernel
theorem dX6_begin_1 : decode cX6_begin 1 = .ok (.iconst 0, 1) := by decide +kernel
theorem dX6_begin_2 : decode cX6_begin 2 = .ok (.putfield 15, 3) := by decide +kernel
theorem dX6_begin_5 : decode cX6_begin 5 = .ok (.aload_n 0, 1) := by decide +kernel
theorem dX6_begin_6 : decode cX6_begin 6 = .ok (.iload_n 1, 1) := by decide +kernel
theorem dX6_begin_7 : decode cX6_begin 7 = .ok (.putfield 19, 3) := by decide +kernel
theorem dX6_begin_10 : decode cX6_begin 10 = .ok (.aload_n 0, 1) := by decide +kernel
theorem dX6_begin_11 : decode cX6_begin 11 = .ok (.iload_n 2, 1) := by decide +kernel
theorem dX6_begin_12 : decode cX6_begin 12 = .ok (.putfield 22, 3) := by decide +kernel
theorem dX6_begin_15 : decode cX6_begin 15 = .ok (.aload_n 0, 1) := by decide +kernel
theorem dX6_begin_16 : decode cX6_begin 16 = .ok (.iload_n 3, 1) := by decide +kernel
theorem dX6_begin_17 : decode cX6_begin 17 = .ok (.putfield 25, 3) := by decide +kernel
theorem dX6_begin_20 : decode cX6_begin 20 = .ok (.aload_n 0, 1) := by decide +kernel
theorem dX6_begin_21 : decode cX6_begin 21 = .ok (.iload 4, 2) := by decide +kernel
theorem dX6_begin_23 : decode cX6_begin 23 = .ok (.putfield 28, 3) := by decide +kernel
theorem dX6_begin_26 : decode cX6_begin 26 = .ok (.return_, 1) := by decide +kernel
theorem dX6_addIfPart_0 : decode cX6_addIfPart 0 = .ok (.aload_n 0, 1) := by decide +kernel
theorem dX6_addIfPart_1 : decode cX6_addIfPart 1 = .ok (.iload_n 1, 1) := by decide +kernel
theorem dX6_addIfPart_2 : decode cX6_addIfPart 2 = .ok (.invokevirtual 43, 3) := by decide +kernel
theorem dX6_addIfPart_5 : decode cX6_addIfPart 5 = .ok (.ifCond .eq 32, 3) := by decide +kernel
theorem dX6_addIfPart_8 : decode cX6_addIfPart 8 = .ok (.aload_n 0, 1) := by decide +kernel
theorem dX6_addIfPart_9 : decode cX6_addIfPart 9 = .ok (.getfield 15, 3) := by decide +kernel
theorem dX6_addIfPart_12 : decode cX6_addIfPart 12 = .ok (.bipush 64, 2) := by decide +kernel
theorem dX6_addIfPart_14 : decode cX6_addIfPart 14 = .ok (.if_icmp .ge 23, 3) := by decide +kernel
theorem dX6_addIfPart_17 : decode cX6_addIfPart 17 = .ok (.aload_n 0, 1) := by decide +kernel
theorem dX6_addIfPart_18 : decode cX6_addIfPart 18 = .ok (.getfield 11, 3) := by decide +kernel
theorem dX6_addIfPart_21 : decode cX6_addIfPart 21 = .ok (.aload_n 0, 1) := by decide +kernel
theorem dX6_addIfPart_22 : decode cX6_addIfPart 22 = .ok (.getfield 15, 3) := by decide +kernel
theorem dX6_addIfPart_25 : decode cX6_addIfPart 25 = .ok (.iload_n 1, 1) := by decide +kernel
theorem dX6_addIfPart_26 : decode cX6_addIfPart 26 = .ok (.iastore, 1) := by decide +kernel
theorem dX6_addIfPart_27 : decode cX6_addIfPart 27 = .ok (.aload_n 0, 1) := by decide +kernel
theorem dX6_addIfPart_28 : decode cX6_addIfPart 28 = .ok (.dup, 1) := by decide +kernel
theorem dX6_addIfPart_29 : decode cX6_addIfPart 29 = .ok (.getfield 15, 3) := by decide +kernel
theorem dX6_addIfPart_32 : decode cX6_addIfPart 32 = .ok (.iconst 1, 1) := by decide +kernel
theorem dX6_addIfPart_33 : decode cX6_addIfPart 33 = .ok (.iadd, 1) := by decide +kernel
theorem dX6_addIfPart_34 : decode cX6_addIfPart 34 = .ok (.putfield 15, 3) := by decide +kernel
theorem dX6_addIfPart_37 : decode cX6_addIfPart 37 = .ok (.return_, 1) := by decide +kernel
theorem dX6_isPart_0 : decode cX6_isPart 0 = .ok (.iconst 0, 1) := by decide +kernel
theorem dX6_isPart_1 : decode cX6_isPart 1 = .ok (.istore_n 2, 1) := by decide +kernel
theorem dX6_isPart_2 : decode cX6_isPart 2 = .ok (.iconst 0, 1) := by decide +kernel
theorem dX6_isPart_3 : decode cX6_isPart 3 = .ok (.istore_n 3, 1) := by decide +kernel
theorem dX6_isPart_4 : decode cX6_isPart 4 = .ok (.iload_n 3, 1) := by decide +kernel
theorem dX6_isPart_5 : decode cX6_isPart 5 = .ok (.aload_n 0, 1) := by decide +kernel
theorem dX6_isPart_6 : decode cX6_isPart 6 = .ok (.getfield 19, 3) := by decide +kernel
theorem dX6_isPart_9 : decode cX6_isPart 9 = .ok (.if_icmp .ge 46, 3) := by decide +kernel
theorem dX6_isPart_12 : decode cX6_isPart 12 = .ok (.iload_n 1, 1) := by decide +kernel
theorem dX6_isPart_13 : decode cX6_isPart 13 = .ok (.iconst 5, 1) := by decide +kernel
theorem dX6_isPart_14 : decode cX6_isPart 14 = .ok (.iconst 4, 1) := by decide +kernel
theorem dX6_isPart_15 : decode cX6_isPart 15 = .ok (.iload_n 3, 1) := by decide +kernel
theorem dX6_isPart_16 : decode cX6_isPart 16 = .ok (.isub, 1) := by decide +kernel
theorem dX6_isPart_17 : decode cX6_isPart 17 = .ok (.imul, 1) := by decide +kernel
theorem dX6_isPart_18 : decode cX6_isPart 18 = .ok (.ishr, 1) := by decide +kernel
theorem dX6_isPart_19 : decode cX6_isPart 19 = .ok (.bipush 31, 2) := by decide +kernel
theorem dX6_isPart_21 : decode cX6_isPart 21 = .ok (.iand, 1) := by decide +kernel
theorem dX6_isPart_22 : decode cX6_isPart 22 = .ok (.istore 4, 2) := by decide +kernel
theorem dX6_isPart_24 : decode cX6_isPart 24 = .ok (.iload 4, 2) := by decide +kernel
theorem dX6_isPart_26 : decode cX6_isPart 26 = .ok (.aload_n 0, 1) := by decide +kernel
theorem dX6_isPart_27 : decode cX6_isPart 27 = .ok (.getfield 22, 3) := by decide +kernel
theorem dX6_isPart_30 : decode cX6_isPart 30 = .ok (.if_icmp .lt 12, 3) := by decide +kernel
theorem dX6_isPart_33 : decode cX6_isPart 33 = .ok (.iload 4, 2) := by decide +kernel
theorem dX6_isPart_35 : decode cX6_isPart 35 = .ok (.aload_n 0, 1) := by decide +kernel
theorem dX6_isPart_36 : decode cX6_isPart 36 = .ok (.getfield 25, 3) := by decide +kernel
theorem dX6_isPart_39 : decode cX6_isPart 39 = .ok (.if_icmp .le 5, 3) := by decide +kernel
theorem dX6_isPart_42 : decode cX6_isPart 42 = .ok (.iconst 0, 1) := by decide +kernel
theorem dX6_isPart_43 : decode cX6_isPart 43 = .ok (.ireturn, 1) := by decide +kernel
theorem dX6_isPart_44 : decode cX6_isPart 44 = .ok (.iload_n 2, 1) := by decide +kernel
theorem dX6_isPart_45 : decode cX6_isPart 45 = .ok (.iload 4, 2) := by decide +kernel
theorem dX6_isPart_47 : decode cX6_isPart 47 = .ok (.iadd, 1) := by decide +kernel
theorem dX6_isPart_48 : decode cX6_isPart 48 = .ok (.istore_n 2, 1) := by decide +kernel
theorem dX6_isPart_49 : decode cX6_isPart 49 = .ok (.iinc 3 1, 3) := by decide +kernel
theorem dX6_isPart_52 : decode cX6_isPart 52 = .ok (.goto (-48), 3) := by decide +kernel
theorem dX6_isPart_55 : decode cX6_isPart 55 = .ok (.iload_n 2, 1) := by decide +kernel
theorem dX6_isPart_56 : decode cX6_isPart 56 = .ok (.aload_n 0, 1) := by decide +kernel
theorem dX6_isPart_57 : decode cX6_isPart 57 = .ok (.getfield 28, 3) := by decide +kernel
theorem dX6_isPart_60 : decode cX6_isPart 60 = .ok (.if_icmp .ne 7, 3) := by decide +kernel
theorem dX6_isPart_63 : decode cX6_isPart 63 = .ok (.iconst 1, 1) := by decide +kernel
theorem dX6_isPart_64 : decode cX6_isPart 64 = .ok (.goto 4, 3) := by decide +kernel
theorem dX6_isPart_67 : decode cX6_isPart 67 = .ok (.iconst 0, 1) := by decide +kernel
theorem dX6_isPart_68 : decode cX6_isPart 68 = .ok (.ireturn, 1) := by decide +kernel
theorem dX6_canTake_0 : decode cX6_canTake 0 = .ok (.iload_n 0, 1) := by decide +kernel
theorem dX6_canTake_1 : decode cX6_canTake 1 = .ok (.ldc 47, 2) := by decide +kernel
theorem dX6_canTake_3 : decode cX6_canTake 3 = .ok (.ior, 1) := by decide +kernel
theorem dX6_canTake_4 : decode cX6_canTake 4 = .ok (.iload_n 1, 1) := by decide +kernel
theorem dX6_canTake_5 : decode cX6_canTake 5 = .ok (.isub, 1) := by decide +kernel
theorem dX6_canTake_6 : decode cX6_canTake 6 = .ok (.ldc 47, 2) := by decide +kernel
theorem dX6_canTake_8 : decode cX6_canTake 8 = .ok (.iand, 1) := by decide +kernel
theorem dX6_canTake_9 : decode cX6_canTake 9 = .ok (.ldc 47, 2) := by decide +kernel
theorem dX6_canTake_11 : decode cX6_canTake 11 = .ok (.if_icmp .ne 7, 3) := by decide +kernel
theorem dX6_canTake_14 : decode cX6_canTake 14 = .ok (.iconst 1, 1) := by decide +kernel
theorem dX6_canTake_15 : decode cX6_canTake 15 = .ok (.goto 4, 3) := by decide +kernel
theorem dX6_canTake_18 : decode cX6_canTake 18 = .ok (.iconst 0, 1) := by decide +kernel
theorem dX6_canTake_19 : decode cX6_canTake 19 = .ok (.ireturn, 1) := by decide +kernel
theorem dX6_waysOf_0 : decode cX6_waysOf 0 = .ok (.iload_n 1, 1) := by decide +kernel
theorem dX6_waysOf_1 : decode cX6_waysOf 1 = .ok (.iconst 1, 1) := by decide +kernel
theorem dX6_waysOf_2 : decode cX6_waysOf 2 = .ok (.if_icmp .lt 8, 3) := by decide +kernel
theorem dX6_waysOf_5 : decode cX6_waysOf 5 = .ok (.iload_n 1, 1) := by decide +kernel
theorem dX6_waysOf_6 : decode cX6_waysOf 6 = .ok (.iconst 3, 1) := by decide +kernel
theorem dX6_waysOf_7 : decode cX6_waysOf 7 = .ok (.if_icmp .le 17, 3) := by decide +kernel
theorem dX6_waysOf_10 : decode cX6_waysOf 10 = .ok (.iload_n 1, 1) := by decide +kernel
theorem dX6_waysOf_11 : decode cX6_waysOf 11 = .ok (.ifCond .ne 11, 3) := by decide +kernel
theorem dX6_waysOf_14 : decode cX6_waysOf 14 = .ok (.iload_n 2, 1) := by decide +kernel
theorem dX6_waysOf_15 : decode cX6_waysOf 15 = .ok (.ifCond .ne 7, 3) := by decide +kernel
theorem dX6_waysOf_18 : decode cX6_waysOf 18 = .ok (.iconst 1, 1) := by decide +kernel
theorem dX6_waysOf_19 : decode cX6_waysOf 19 = .ok (.goto 4, 3) := by decide +kernel
theorem dX6_waysOf_22 : decode cX6_waysOf 22 = .ok (.iconst 0, 1) := by decide +kernel
theorem dX6_waysOf_23 : decode cX6_waysOf 23 = .ok (.ireturn, 1) := by decide +kernel
theorem dX6_waysOf_24 : decode cX6_waysOf 24 = .ok (.iload_n 1, 1) := by decide +kernel
theorem dX6_waysOf_25 : decode cX6_waysOf 25 = .ok (.iconst 1, 1) := by decide +kernel
theorem dX6_waysOf_26 : decode cX6_waysOf 26 = .ok (.if_icmp .ne 17, 3) := by decide +kernel
theorem dX6_waysOf_29 : decode cX6_waysOf 29 = .ok (.aload_n 0, 1) := by decide +kernel
theorem dX6_waysOf_30 : decode cX6_waysOf 30 = .ok (.iload_n 2, 1) := by decide +kernel
theorem dX6_waysOf_31 : decode cX6_waysOf 31 = .ok (.invokevirtual 43, 3) := by decide +kernel
theorem dX6_waysOf_34 : decode cX6_waysOf 34 = .ok (.ifCond .eq 7, 3) := by decide +kernel
theorem dX6_waysOf_37 : decode cX6_waysOf 37 = .ok (.iconst 1, 1) := by decide +kernel
theorem dX6_waysOf_38 : decode cX6_waysOf 38 = .ok (.goto 4, 3) := by decide +kernel
theorem dX6_waysOf_41 : decode cX6_waysOf 41 = .ok (.iconst 0, 1) := by decide +kernel
theorem dX6_waysOf_42 : decode cX6_waysOf 42 = .ok (.ireturn, 1) := by decide +kernel
theorem dX6_waysOf_43 : decode cX6_waysOf 43 = .ok (.iconst 0, 1) := by decide +kernel
theorem dX6_waysOf_44 : decode cX6_waysOf 44 = .ok (.istore_n 3, 1) := by decide +kernel
theorem dX6_waysOf_45 : decode cX6_waysOf 45 = .ok (.iconst 0, 1) := by decide +kernel
theorem dX6_waysOf_46 : decode cX6_waysOf 46 = .ok (.istore 4, 2) := by decide +kernel
theorem dX6_waysOf_48 : decode cX6_waysOf 48 = .ok (.iload 4, 2) := by decide +kernel
theorem dX6_waysOf_50 : decode cX6_waysOf 50 = .ok (.aload_n 0, 1) := by decide +kernel
theorem dX6_waysOf_51 : decode cX6_waysOf 51 = .ok (.getfield 15, 3) := by decide +kernel
theorem dX6_waysOf_54 : decode cX6_waysOf 54 = .ok (.if_icmp .ge 42, 3) := by decide +kernel
theorem dX6_waysOf_57 : decode cX6_waysOf 57 = .ok (.iload_n 2, 1) := by decide +kernel
theorem dX6_waysOf_58 : decode cX6_waysOf 58 = .ok (.aload_n 0, 1) := by decide +kernel
theorem dX6_waysOf_59 : decode cX6_waysOf 59 = .ok (.getfield 11, 3) := by decide +kernel
theorem dX6_waysOf_62 : decode cX6_waysOf 62 = .ok (.iload 4, 2) := by decide +kernel
theorem dX6_waysOf_64 : decode cX6_waysOf 64 = .ok (.iaload, 1) := by decide +kernel
theorem dX6_waysOf_65 : decode cX6_waysOf 65 = .ok (.invokestatic 48, 3) := by decide +kernel
theorem dX6_waysOf_68 : decode cX6_waysOf 68 = .ok (.ifCond .eq 22, 3) := by decide +kernel
theorem dX6_waysOf_71 : decode cX6_waysOf 71 = .ok (.iload_n 3, 1) := by decide +kernel
theorem dX6_waysOf_72 : decode cX6_waysOf 72 = .ok (.aload_n 0, 1) := by decide +kernel
theorem dX6_waysOf_73 : decode cX6_waysOf 73 = .ok (.iload_n 1, 1) := by decide +kernel
theorem dX6_waysOf_74 : decode cX6_waysOf 74 = .ok (.iconst 1, 1) := by decide +kernel
theorem dX6_waysOf_75 : decode cX6_waysOf 75 = .ok (.isub, 1) := by decide +kernel
theorem dX6_waysOf_76 : decode cX6_waysOf 76 = .ok (.iload_n 2, 1) := by decide +kernel
theorem dX6_waysOf_77 : decode cX6_waysOf 77 = .ok (.aload_n 0, 1) := by decide +kernel
theorem dX6_waysOf_78 : decode cX6_waysOf 78 = .ok (.getfield 11, 3) := by decide +kernel
theorem dX6_waysOf_81 : decode cX6_waysOf 81 = .ok (.iload 4, 2) := by decide +kernel
theorem dX6_waysOf_83 : decode cX6_waysOf 83 = .ok (.iaload, 1) := by decide +kernel
theorem dX6_waysOf_84 : decode cX6_waysOf 84 = .ok (.isub, 1) := by decide +kernel
theorem dX6_waysOf_85 : decode cX6_waysOf 85 = .ok (.invokestatic 52, 3) := by decide +kernel
theorem dX6_waysOf_88 : decode cX6_waysOf 88 = .ok (.iadd, 1) := by decide +kernel
theorem dX6_waysOf_89 : decode cX6_waysOf 89 = .ok (.istore_n 3, 1) := by decide +kernel
theorem dX6_waysOf_90 : decode cX6_waysOf 90 = .ok (.iinc 4 1, 3) := by decide +kernel
theorem dX6_waysOf_93 : decode cX6_waysOf 93 = .ok (.goto (-45), 3) := by decide +kernel
theorem dX6_waysOf_96 : decode cX6_waysOf 96 = .ok (.iload_n 3, 1) := by decide +kernel
theorem dX6_waysOf_97 : decode cX6_waysOf 97 = .ok (.ireturn, 1) := by decide +kernel
theorem dX6_pick_0 : decode cX6_pick 0 = .ok (.iload_n 2, 1) := by decide +kernel
theorem dX6_pick_1 : decode cX6_pick 1 = .ok (.istore 6, 2) := by decide +kernel
theorem dX6_pick_3 : decode cX6_pick 3 = .ok (.iload_n 3, 1) := by decide +kernel
theorem dX6_pick_4 : decode cX6_pick 4 = .ok (.istore 7, 2) := by decide +kernel
theorem dX6_pick_6 : decode cX6_pick 6 = .ok (.iconst 0, 1) := by decide +kernel
theorem dX6_pick_7 : decode cX6_pick 7 = .ok (.istore 8, 2) := by decide +kernel
theorem dX6_pick_9 : decode cX6_pick 9 = .ok (.iload 8, 2) := by decide +kernel
theorem dX6_pick_11 : decode cX6_pick 11 = .ok (.iload_n 1, 1) := by decide +kernel
theorem dX6_pick_12 : decode cX6_pick 12 = .ok (.if_icmp .ge 123, 3) := by decide +kernel
theorem dX6_pick_15 : decode cX6_pick 15 = .ok (.iload 5, 2) := by decide +kernel
theorem dX6_pick_17 : decode cX6_pick 17 = .ok (.iload 8, 2) := by decide +kernel
theorem dX6_pick_19 : decode cX6_pick 19 = .ok (.iadd, 1) := by decide +kernel
theorem dX6_pick_20 : decode cX6_pick 20 = .ok (.aload 4, 2) := by decide +kernel
theorem dX6_pick_22 : decode cX6_pick 22 = .ok (.arraylength, 1) := by decide +kernel
theorem dX6_pick_23 : decode cX6_pick 23 = .ok (.if_icmp .ge 112, 3) := by decide +kernel
theorem dX6_pick_26 : decode cX6_pick 26 = .ok (.iconst 0, 1) := by decide +kernel
theorem dX6_pick_27 : decode cX6_pick 27 = .ok (.istore 9, 2) := by decide +kernel
theorem dX6_pick_29 : decode cX6_pick 29 = .ok (.iload 9, 2) := by decide +kernel
theorem dX6_pick_31 : decode cX6_pick 31 = .ok (.aload_n 0, 1) := by decide +kernel
theorem dX6_pick_32 : decode cX6_pick 32 = .ok (.getfield 15, 3) := by decide +kernel
theorem dX6_pick_35 : decode cX6_pick 35 = .ok (.if_icmp .ge 94, 3) := by decide +kernel
theorem dX6_pick_38 : decode cX6_pick 38 = .ok (.iload 6, 2) := by decide +kernel
theorem dX6_pick_40 : decode cX6_pick 40 = .ok (.aload_n 0, 1) := by decide +kernel
theorem dX6_pick_41 : decode cX6_pick 41 = .ok (.getfield 11, 3) := by decide +kernel
theorem dX6_pick_44 : decode cX6_pick 44 = .ok (.iload 9, 2) := by decide +kernel
theorem dX6_pick_46 : decode cX6_pick 46 = .ok (.iaload, 1) := by decide +kernel
theorem dX6_pick_47 : decode cX6_pick 47 = .ok (.invokestatic 48, 3) := by decide +kernel
theorem dX6_pick_50 : decode cX6_pick 50 = .ok (.ifCond .eq 26, 3) := by decide +kernel
theorem dX6_pick_53 : decode cX6_pick 53 = .ok (.aload_n 0, 1) := by decide +kernel
theorem dX6_pick_54 : decode cX6_pick 54 = .ok (.iload_n 1, 1) := by decide +kernel
theorem dX6_pick_55 : decode cX6_pick 55 = .ok (.iconst 1, 1) := by decide +kernel
theorem dX6_pick_56 : decode cX6_pick 56 = .ok (.isub, 1) := by decide +kernel
theorem dX6_pick_57 : decode cX6_pick 57 = .ok (.iload 8, 2) := by decide +kernel
theorem dX6_pick_59 : decode cX6_pick 59 = .ok (.isub, 1) := by decide +kernel
theorem dX6_pick_60 : decode cX6_pick 60 = .ok (.iload 6, 2) := by decide +kernel
theorem dX6_pick_62 : decode cX6_pick 62 = .ok (.aload_n 0, 1) := by decide +kernel
theorem dX6_pick_63 : decode cX6_pick 63 = .ok (.getfield 11, 3) := by decide +kernel
theorem dX6_pick_66 : decode cX6_pick 66 = .ok (.iload 9, 2) := by decide +kernel
theorem dX6_pick_68 : decode cX6_pick 68 = .ok (.iaload, 1) := by decide +kernel
theorem dX6_pick_69 : decode cX6_pick 69 = .ok (.isub, 1) := by decide +kernel
theorem dX6_pick_70 : decode cX6_pick 70 = .ok (.invokestatic 52, 3) := by decide +kernel
theorem dX6_pick_73 : decode cX6_pick 73 = .ok (.goto 4, 3) := by decide +kernel
theorem dX6_pick_76 : decode cX6_pick 76 = .ok (.iconst 0, 1) := by decide +kernel
theorem dX6_pick_77 : decode cX6_pick 77 = .ok (.istore 10, 2) := by decide +kernel
theorem dX6_pick_79 : decode cX6_pick 79 = .ok (.iload 7, 2) := by decide +kernel
theorem dX6_pick_81 : decode cX6_pick 81 = .ok (.iload 10, 2) := by decide +kernel
theorem dX6_pick_83 : decode cX6_pick 83 = .ok (.if_icmp .ge 33, 3) := by decide +kernel
theorem dX6_pick_86 : decode cX6_pick 86 = .ok (.aload 4, 2) := by decide +kernel
theorem dX6_pick_88 : decode cX6_pick 88 = .ok (.iload 5, 2) := by decide +kernel
theorem dX6_pick_90 : decode cX6_pick 90 = .ok (.iload 8, 2) := by decide +kernel
theorem dX6_pick_92 : decode cX6_pick 92 = .ok (.iadd, 1) := by decide +kernel
theorem dX6_pick_93 : decode cX6_pick 93 = .ok (.aload_n 0, 1) := by decide +kernel
theorem dX6_pick_94 : decode cX6_pick 94 = .ok (.getfield 11, 3) := by decide +kernel
theorem dX6_pick_97 : decode cX6_pick 97 = .ok (.iload 9, 2) := by decide +kernel
theorem dX6_pick_99 : decode cX6_pick 99 = .ok (.iaload, 1) := by decide +kernel
theorem dX6_pick_100 : decode cX6_pick 100 = .ok (.iastore, 1) := by decide +kernel
theorem dX6_pick_101 : decode cX6_pick 101 = .ok (.iload 6, 2) := by decide +kernel
theorem dX6_pick_103 : decode cX6_pick 103 = .ok (.aload_n 0, 1) := by decide +kernel
theorem dX6_pick_104 : decode cX6_pick 104 = .ok (.getfield 11, 3) := by decide +kernel
theorem dX6_pick_107 : decode cX6_pick 107 = .ok (.iload 9, 2) := by decide +kernel
theorem dX6_pick_109 : decode cX6_pick 109 = .ok (.iaload, 1) := by decide +kernel
theorem dX6_pick_110 : decode cX6_pick 110 = .ok (.isub, 1) := by decide +kernel
theorem dX6_pick_111 : decode cX6_pick 111 = .ok (.istore 6, 2) := by decide +kernel
theorem dX6_pick_113 : decode cX6_pick 113 = .ok (.goto 16, 3) := by decide +kernel
theorem dX6_pick_116 : decode cX6_pick 116 = .ok (.iload 7, 2) := by decide +kernel
theorem dX6_pick_118 : decode cX6_pick 118 = .ok (.iload 10, 2) := by decide +kernel
theorem dX6_pick_120 : decode cX6_pick 120 = .ok (.isub, 1) := by decide +kernel
theorem dX6_pick_121 : decode cX6_pick 121 = .ok (.istore 7, 2) := by decide +kernel
theorem dX6_pick_123 : decode cX6_pick 123 = .ok (.iinc 9 1, 3) := by decide +kernel
theorem dX6_pick_126 : decode cX6_pick 126 = .ok (.goto (-97), 3) := by decide +kernel
theorem dX6_pick_129 : decode cX6_pick 129 = .ok (.iinc 8 1, 3) := by decide +kernel
theorem dX6_pick_132 : decode cX6_pick 132 = .ok (.goto (-123), 3) := by decide +kernel
theorem dX6_pick_135 : decode cX6_pick 135 = .ok (.return_, 1) := by decide +kernel
theorem dX7_init_0 : decode cX7_init 0 = .ok (.aload_n 0, 1) := by decide +kernel
theorem dX7_init_1 : decode cX7_init 1 = .ok (.invokespecial 3, 3) := by decide +kernel
theorem dX7_init_4 : decode cX7_init 4 = .ok (.aload_n 0, 1) := by decide +kernel
theorem dX7_init_5 : decode cX7_init 5 = .ok (.sipush 800, 3) := by decide +kernel
theorem dX7_init_8 : decode cX7_init 8 = .ok (.newarray .byte, 2) := by decide +kernel
theorem dX7_init_10 : decode cX7_init 10 = .ok (.putfield 9, 3) := by decide +kernel
theorem dX7_init_13 : decode cX7_init 13 = .ok (.aload_n 0, 1) := by decide +kernel
theorem dX7_init_14 : decode cX7_init 14 = .ok (.iconst 0, 1) := by decide +kernel
theorem dX7_init_15 : decode cX7_init 15 = .ok (.putfield 15, 3) := by decide +kernel
theorem dX7_init_18 : decode cX7_init 18 = .ok (.aload_n 0, 1) := by decide +kernel
theorem dX7_init_19 : decode cX7_init 19 = .ok (.new 19, 3) := by decide +kernel
theorem dX7_init_22 : decode cX7_init 22 = .ok (.dup, 1) := by decide +kernel
theorem dX7_init_23 : decode cX7_init 23 = .ok (.invokespecial 21, 3) := by decide +kernel
theorem dX7_init_26 : decode cX7_init 26 = .ok (.putfield 22, 3) := by decide +kernel
theorem dX7_init_29 : decode cX7_init 29 = .ok (.aload_n 0, 1) := by decide +kernel
theorem dX7_init_30 : decode cX7_init 30 = .ok (.bipush 45, 2) := by decide +kernel
theorem dX7_init_32 : decode cX7_init 32 = .ok (.newarray .int, 2) := by decide +kernel
theorem dX7_init_34 : decode cX7_init 34 = .ok (.putfield 26, 3) := by decide +kernel
theorem dX7_init_37 : decode cX7_init 37 = .ok (.aload_n 0, 1) := by decide +kernel
theorem dX7_init_38 : decode cX7_init 38 = .ok (.iconst 0, 1) := by decide +kernel
theorem dX7_init_39 : decode cX7_init 39 = .ok (.putfield 30, 3) := by decide +kernel
theorem dX7_init_42 : decode cX7_init 42 = .ok (.aload_n 0, 1) := by decide +kernel
theorem dX7_init_43 : decode cX7_init 43 = .ok (.iconst 0, 1) := by decide +kernel
theorem dX7_init_44 : decode cX7_init 44 = .ok (.putfield 33, 3) := by decide +kernel
theorem dX7_init_47 : decode cX7_init 47 = .ok (.aload_n 0, 1) := by decide +kernel
theorem dX7_init_48 : decode cX7_init 48 = .ok (.iconst 0, 1) := by decide +kernel
theorem dX7_init_49 : decode cX7_init 49 = .ok (.putfield 36, 3) := by decide +kernel
theorem dX7_init_52 : decode cX7_init 52 = .ok (.aload_n 0, 1) := by decide +kernel
theorem dX7_init_53 : decode cX7_init 53 = .ok (.iconst 0, 1) := by decide +kernel
theorem dX7_init_54 : decode cX7_init 54 = .ok (.putfield 39, 3) := by decide +kernel
theorem dX7_init_57 : decode cX7_init 57 = .ok (.aload_n 0, 1) := by decide +kernel
theorem dX7_init_58 : decode cX7_init 58 = .ok (.iconst 1, 1) := by decide +kernel
theorem dX7_init_59 : decode cX7_init 59 = .ok (.putfield 42, 3) := by decide +kernel
theorem dX7_init_62 : decode cX7_init 62 = .ok (.aload_n 0, 1) := by decide +kernel
theorem dX7_init_63 : decode cX7_init 63 = .ok (.iconst 0, 1) := by decide +kernel
theorem dX7_init_64 : decode cX7_init 64 = .ok (.putfield 45, 3) := by decide +kernel
theorem dX7_init_67 : decode cX7_init 67 = .ok (.aload_n 0, 1) := by decide +kernel
theorem dX7_init_68 : decode cX7_init 68 = .ok (.iconst (-1), 1) := by decide +kernel
theorem dX7_init_69 : decode cX7_init 69 = .ok (.putfield 48, 3) := by decide +kernel
theorem dX7_init_72 : decode cX7_init 72 = .ok (.return_, 1) := by decide +kernel
theorem dX7_addFour_0 : decode cX7_addFour 0 = .ok (.bipush 24, 2) := by decide +kernel
theorem dX7_addFour_2 : decode cX7_addFour 2 = .ok (.istore_n 2, 1) := by decide +kernel
theorem dX7_addFour_3 : decode cX7_addFour 3 = .ok (.iload_n 2, 1) := by decide +kernel
theorem dX7_addFour_4 : decode cX7_addFour 4 = .ok (.ifCond .lt 42, 3) := by decide +kernel
theorem dX7_addFour_7 : decode cX7_addFour 7 = .ok (.aload_n 0, 1) := by decide +kernel
theorem dX7_addFour_8 : decode cX7_addFour 8 = .ok (.getfield 15, 3) := by decide +kernel
theorem dX7_addFour_11 : decode cX7_addFour 11 = .ok (.sipush 800, 3) := by decide +kernel
theorem dX7_addFour_14 : decode cX7_addFour 14 = .ok (.if_icmp .ge 32, 3) := by decide +kernel
theorem dX7_addFour_17 : decode cX7_addFour 17 = .ok (.aload_n 0, 1) := by decide +kernel
theorem dX7_addFour_18 : decode cX7_addFour 18 = .ok (.getfield 9, 3) := by decide +kernel
theorem dX7_addFour_21 : decode cX7_addFour 21 = .ok (.aload_n 0, 1) := by decide +kernel
theorem dX7_addFour_22 : decode cX7_addFour 22 = .ok (.getfield 15, 3) := by decide +kernel
theorem dX7_addFour_25 : decode cX7_addFour 25 = .ok (.iload_n 1, 1) := by decide +kernel
theorem dX7_addFour_26 : decode cX7_addFour 26 = .ok (.iload_n 2, 1) := by decide +kernel
theorem dX7_addFour_27 : decode cX7_addFour 27 = .ok (.ishr, 1) := by decide +kernel
theorem dX7_addFour_28 : decode cX7_addFour 28 = .ok (.i2b, 1) := by decide +kernel
theorem dX7_addFour_29 : decode cX7_addFour 29 = .ok (.bastore, 1) := by decide +kernel
theorem dX7_addFour_30 : decode cX7_addFour 30 = .ok (.aload_n 0, 1) := by decide +kernel
theorem dX7_addFour_31 : decode cX7_addFour 31 = .ok (.dup, 1) := by decide +kernel
theorem dX7_addFour_32 : decode cX7_addFour 32 = .ok (.getfield 15, 3) := by decide +kernel
theorem dX7_addFour_35 : decode cX7_addFour 35 = .ok (.iconst 1, 1) := by decide +kernel
theorem dX7_addFour_36 : decode cX7_addFour 36 = .ok (.iadd, 1) := by decide +kernel
theorem dX7_addFour_37 : decode cX7_addFour 37 = .ok (.putfield 15, 3) := by decide +kernel
theorem dX7_addFour_40 : decode cX7_addFour 40 = .ok (.iinc 2 (-8), 3) := by decide +kernel
theorem dX7_addFour_43 : decode cX7_addFour 43 = .ok (.goto (-40), 3) := by decide +kernel
theorem dX7_addFour_46 : decode cX7_addFour 46 = .ok (.return_, 1) := by decide +kernel
theorem dX7_begin_0 : decode cX7_begin 0 = .ok (.aload_n 1, 1) := by decide +kernel
theorem dX7_begin_1 : decode cX7_begin 1 = .ok (.invokevirtual 51, 3) := by decide +kernel
theorem dX7_begin_4 : decode cX7_begin 4 = .ok (.aload_n 0, 1) := by decide +kernel
theorem dX7_begin_5 : decode cX7_begin 5 = .ok (.iconst 0, 1) := by decide +kernel
theorem dX7_begin_6 : decode cX7_begin 6 = .ok (.putfield 30, 3) := by decide +kernel
theorem dX7_begin_9 : decode cX7_begin 9 = .ok (.aload_n 0, 1) := by decide +kernel
theorem dX7_begin_10 : decode cX7_begin 10 = .ok (.iconst 1, 1) := by decide +kernel
theorem dX7_begin_11 : decode cX7_begin 11 = .ok (.putfield 42, 3) := by decide +kernel
theorem dX7_begin_14 : decode cX7_begin 14 = .ok (.aload_n 0, 1) := by decide +kernel
theorem dX7_begin_15 : decode cX7_begin 15 = .ok (.iconst 0, 1) := by decide +kernel
theorem dX7_begin_16 : decode cX7_begin 16 = .ok (.putfield 45, 3) := by decide +kernel
theorem dX7_begin_19 : decode cX7_begin 19 = .ok (.aload_n 0, 1) := by decide +kernel
theorem dX7_begin_20 : decode cX7_begin 20 = .ok (.iconst (-1), 1) := by decide +kernel
theorem dX7_begin_21 : decode cX7_begin 21 = .ok (.putfield 48, 3) := by decide +kernel
theorem dX7_begin_24 : decode cX7_begin 24 = .ok (.aload_n 0, 1) := by decide +kernel
theorem dX7_begin_25 : decode cX7_begin 25 = .ok (.invokevirtual 56, 3) := by decide +kernel
theorem dX7_begin_28 : decode cX7_begin 28 = .ok (.return_, 1) := by decide +kernel
theorem dX7_hasLine_0 : decode cX7_hasLine 0 = .ok (.aload_n 0, 1) := by decide +kernel
theorem dX7_hasLine_1 : decode cX7_hasLine 1 = .ok (.getfield 33, 3) := by decide +kernel
theorem dX7_hasLine_4 : decode cX7_hasLine 4 = .ok (.ifCond .eq 14, 3) := by decide +kernel
theorem dX7_hasLine_7 : decode cX7_hasLine 7 = .ok (.aload_n 0, 1) := by decide +kernel
theorem dX7_hasLine_8 : decode cX7_hasLine 8 = .ok (.getfield 45, 3) := by decide +kernel
theorem dX7_hasLine_11 : decode cX7_hasLine 11 = .ok (.ifCond .ne 7, 3) := by decide +kernel
theorem dX7_hasLine_14 : decode cX7_hasLine 14 = .ok (.iconst 1, 1) := by decide +kernel
theorem dX7_hasLine_15 : decode cX7_hasLine 15 = .ok (.goto 4, 3) := by decide +kernel
theorem dX7_hasLine_18 : decode cX7_hasLine 18 = .ok (.iconst 0, 1) := by decide +kernel
theorem dX7_hasLine_19 : decode cX7_hasLine 19 = .ok (.ireturn, 1) := by decide +kernel
theorem dX7_readLine_0 : decode cX7_readLine 0 = .ok (.aload_n 0, 1) := by decide +kernel
theorem dX7_readLine_1 : decode cX7_readLine 1 = .ok (.ldc 59, 2) := by decide +kernel
theorem dX7_readLine_3 : decode cX7_readLine 3 = .ok (.invokevirtual 61, 3) := by decide +kernel
theorem dX7_readLine_6 : decode cX7_readLine 6 = .ok (.aload_n 1, 1) := by decide +kernel
theorem dX7_readLine_7 : decode cX7_readLine 7 = .ok (.getfield 65, 3) := by decide +kernel
theorem dX7_readLine_10 : decode cX7_readLine 10 = .ok (.ifCond .ne 7, 3) := by decide +kernel
theorem dX7_readLine_13 : decode cX7_readLine 13 = .ok (.iconst 1, 1) := by decide +kernel
theorem dX7_readLine_14 : decode cX7_readLine 14 = .ok (.goto 4, 3) := by decide +kernel
theorem dX7_readLine_17 : decode cX7_readLine 17 = .ok (.iconst 0, 1) := by decide +kernel
theorem dX7_readLine_18 : decode cX7_readLine 18 = .ok (.if_icmp .eq 11, 3) := by decide +kernel
theorem dX7_readLine_21 : decode cX7_readLine 21 = .ok (.aload_n 0, 1) := by decide +kernel
theorem dX7_readLine_22 : decode cX7_readLine 22 = .ok (.iconst 1, 1) := by decide +kernel
theorem dX7_readLine_23 : decode cX7_readLine 23 = .ok (.invokevirtual 68, 3) := by decide +kernel
theorem dX7_readLine_26 : decode cX7_readLine 26 = .ok (.goto 91, 3) := by decide +kernel
theorem dX7_readLine_29 : decode cX7_readLine 29 = .ok (.aload_n 0, 1) := by decide +kernel
theorem dX7_readLine_30 : decode cX7_readLine 30 = .ok (.ldc 59, 2) := by decide +kernel
theorem dX7_readLine_32 : decode cX7_readLine 32 = .ok (.invokevirtual 61, 3) := by decide +kernel
theorem dX7_readLine_35 : decode cX7_readLine 35 = .ok (.ifCond .eq 14, 3) := by decide +kernel
theorem dX7_readLine_38 : decode cX7_readLine 38 = .ok (.aload_n 0, 1) := by decide +kernel
theorem dX7_readLine_39 : decode cX7_readLine 39 = .ok (.aload_n 1, 1) := by decide +kernel
theorem dX7_readLine_40 : decode cX7_readLine 40 = .ok (.getfield 72, 3) := by decide +kernel
theorem dX7_readLine_43 : decode cX7_readLine 43 = .ok (.invokevirtual 76, 3) := by decide +kernel
theorem dX7_readLine_46 : decode cX7_readLine 46 = .ok (.goto 71, 3) := by decide +kernel
theorem dX7_readLine_49 : decode cX7_readLine 49 = .ok (.aload_n 0, 1) := by decide +kernel
theorem dX7_readLine_50 : decode cX7_readLine 50 = .ok (.ldc 80, 2) := by decide +kernel
theorem dX7_readLine_52 : decode cX7_readLine 52 = .ok (.invokevirtual 61, 3) := by decide +kernel
theorem dX7_readLine_55 : decode cX7_readLine 55 = .ok (.ifCond .eq 11, 3) := by decide +kernel
theorem dX7_readLine_58 : decode cX7_readLine 58 = .ok (.aload_n 0, 1) := by decide +kernel
theorem dX7_readLine_59 : decode cX7_readLine 59 = .ok (.aload_n 1, 1) := by decide +kernel
theorem dX7_readLine_60 : decode cX7_readLine 60 = .ok (.invokevirtual 82, 3) := by decide +kernel
theorem dX7_readLine_63 : decode cX7_readLine 63 = .ok (.goto 54, 3) := by decide +kernel
theorem dX7_readLine_66 : decode cX7_readLine 66 = .ok (.aload_n 0, 1) := by decide +kernel
theorem dX7_readLine_67 : decode cX7_readLine 67 = .ok (.ldc 86, 2) := by decide +kernel
theorem dX7_readLine_69 : decode cX7_readLine 69 = .ok (.invokevirtual 61, 3) := by decide +kernel
theorem dX7_readLine_72 : decode cX7_readLine 72 = .ok (.ifCond .eq 11, 3) := by decide +kernel
theorem dX7_readLine_75 : decode cX7_readLine 75 = .ok (.aload_n 0, 1) := by decide +kernel
theorem dX7_readLine_76 : decode cX7_readLine 76 = .ok (.aload_n 1, 1) := by decide +kernel
theorem dX7_readLine_77 : decode cX7_readLine 77 = .ok (.invokevirtual 88, 3) := by decide +kernel
theorem dX7_readLine_80 : decode cX7_readLine 80 = .ok (.goto 37, 3) := by decide +kernel
theorem dX7_readLine_83 : decode cX7_readLine 83 = .ok (.aload_n 0, 1) := by decide +kernel
theorem dX7_readLine_84 : decode cX7_readLine 84 = .ok (.ldc 91, 2) := by decide +kernel
theorem dX7_readLine_86 : decode cX7_readLine 86 = .ok (.invokevirtual 61, 3) := by decide +kernel
theorem dX7_readLine_89 : decode cX7_readLine 89 = .ok (.ifCond .eq 11, 3) := by decide +kernel
theorem dX7_readLine_92 : decode cX7_readLine 92 = .ok (.aload_n 0, 1) := by decide +kernel
theorem dX7_readLine_93 : decode cX7_readLine 93 = .ok (.aload_n 1, 1) := by decide +kernel
theorem dX7_readLine_94 : decode cX7_readLine 94 = .ok (.invokevirtual 93, 3) := by decide +kernel
theorem dX7_readLine_97 : decode cX7_readLine 97 = .ok (.goto 20, 3) := by decide +kernel
theorem dX7_readLine_100 : decode cX7_readLine 100 = .ok (.aload_n 0, 1) := by decide +kernel
theorem dX7_readLine_101 : decode cX7_readLine 101 = .ok (.ldc 96, 2) := by decide +kernel
theorem dX7_readLine_103 : decode cX7_readLine 103 = .ok (.invokevirtual 98, 3) := by decide +kernel
theorem dX7_readLine_106 : decode cX7_readLine 106 = .ok (.aload_n 0, 1) := by decide +kernel
theorem dX7_readLine_107 : decode cX7_readLine 107 = .ok (.aload_n 0, 1) := by decide +kernel
theorem dX7_readLine_108 : decode cX7_readLine 108 = .ok (.iconst 0, 1) := by decide +kernel
theorem dX7_readLine_109 : decode cX7_readLine 109 = .ok (.ldc 102, 2) := by decide +kernel
theorem dX7_readLine_111 : decode cX7_readLine 111 = .ok (.invokevirtual 103, 3) := by decide +kernel
theorem dX7_readLine_114 : decode cX7_readLine 114 = .ok (.putfield 42, 3) := by decide +kernel
theorem dX7_readLine_117 : decode cX7_readLine 117 = .ok (.aload_n 0, 1) := by decide +kernel
theorem dX7_readLine_118 : decode cX7_readLine 118 = .ok (.invokevirtual 107, 3) := by decide +kernel
theorem dX7_readLine_121 : decode cX7_readLine 121 = .ok (.aload_n 1, 1) := by decide +kernel
theorem dX7_readLine_122 : decode cX7_readLine 122 = .ok (.dup, 1) := by decide +kernel
theorem dX7_readLine_123 : decode cX7_readLine 123 = .ok (.getfield 65, 3) := by decide +kernel
theorem dX7_readLine_126 : decode cX7_readLine 126 = .ok (.iconst 1, 1) := by decide +kernel
theorem dX7_readLine_127 : decode cX7_readLine 127 = .ok (.iadd, 1) := by decide +kernel
theorem dX7_readLine_128 : decode cX7_readLine 128 = .ok (.putfield 65, 3) := by decide +kernel
theorem dX7_readLine_131 : decode cX7_readLine 131 = .ok (.return_, 1) := by decide +kernel
theorem dX7_readForm_0 : decode cX7_readForm 0 = .ok (.aload_n 0, 1) := by decide +kernel
theorem dX7_readForm_1 : decode cX7_readForm 1 = .ok (.ldc 59, 2) := by decide +kernel
theorem dX7_readForm_3 : decode cX7_readForm 3 = .ok (.invokevirtual 98, 3) := by decide +kernel
theorem dX7_readForm_6 : decode cX7_readForm 6 = .ok (.aload_n 0, 1) := by decide +kernel
theorem dX7_readForm_7 : decode cX7_readForm 7 = .ok (.ldc 110, 2) := by decide +kernel
theorem dX7_readForm_9 : decode cX7_readForm 9 = .ok (.invokevirtual 98, 3) := by decide +kernel
theorem dX7_readForm_12 : decode cX7_readForm 12 = .ok (.aload_n 1, 1) := by decide +kernel
theorem dX7_readForm_13 : decode cX7_readForm 13 = .ok (.aload_n 0, 1) := by decide +kernel
theorem dX7_readForm_14 : decode cX7_readForm 14 = .ok (.iconst 1, 1) := by decide +kernel
theorem dX7_readForm_15 : decode cX7_readForm 15 = .ok (.iconst 3, 1) := by decide +kernel
theorem dX7_readForm_16 : decode cX7_readForm 16 = .ok (.invokevirtual 103, 3) := by decide +kernel
theorem dX7_readForm_19 : decode cX7_readForm 19 = .ok (.putfield 112, 3) := by decide +kernel
theorem dX7_readForm_22 : decode cX7_readForm 22 = .ok (.aload_n 0, 1) := by decide +kernel
theorem dX7_readForm_23 : decode cX7_readForm 23 = .ok (.ldc 116, 2) := by decide +kernel
theorem dX7_readForm_25 : decode cX7_readForm 25 = .ok (.invokevirtual 98, 3) := by decide +kernel
theorem dX7_readForm_28 : decode cX7_readForm 28 = .ok (.aload_n 1, 1) := by decide +kernel
theorem dX7_readForm_29 : decode cX7_readForm 29 = .ok (.aload_n 0, 1) := by decide +kernel
theorem dX7_readForm_30 : decode cX7_readForm 30 = .ok (.iconst 1, 1) := by decide +kernel
theorem dX7_readForm_31 : decode cX7_readForm 31 = .ok (.iconst 3, 1) := by decide +kernel
theorem dX7_readForm_32 : decode cX7_readForm 32 = .ok (.invokevirtual 103, 3) := by decide +kernel
theorem dX7_readForm_35 : decode cX7_readForm 35 = .ok (.putfield 118, 3) := by decide +kernel
theorem dX7_readForm_38 : decode cX7_readForm 38 = .ok (.aload_n 0, 1) := by decide +kernel
theorem dX7_readForm_39 : decode cX7_readForm 39 = .ok (.ldc 120, 2) := by decide +kernel
theorem dX7_readForm_41 : decode cX7_readForm 41 = .ok (.invokevirtual 98, 3) := by decide +kernel
theorem dX7_readForm_44 : decode cX7_readForm 44 = .ok (.aload_n 1, 1) := by decide +kernel
theorem dX7_readForm_45 : decode cX7_readForm 45 = .ok (.aload_n 0, 1) := by decide +kernel
theorem dX7_readForm_46 : decode cX7_readForm 46 = .ok (.iconst 1, 1) := by decide +kernel
theorem dX7_readForm_47 : decode cX7_readForm 47 = .ok (.iconst 5, 1) := by decide +kernel
theorem dX7_readForm_48 : decode cX7_readForm 48 = .ok (.invokevirtual 103, 3) := by decide +kernel
theorem dX7_readForm_51 : decode cX7_readForm 51 = .ok (.putfield 122, 3) := by decide +kernel
theorem dX7_readForm_54 : decode cX7_readForm 54 = .ok (.aload_n 0, 1) := by decide +kernel
theorem dX7_readForm_55 : decode cX7_readForm 55 = .ok (.ldc 124, 2) := by decide +kernel
theorem dX7_readForm_57 : decode cX7_readForm 57 = .ok (.invokevirtual 98, 3) := by decide +kernel
theorem dX7_readForm_60 : decode cX7_readForm 60 = .ok (.aload_n 0, 1) := by decide +kernel
theorem dX7_readForm_61 : decode cX7_readForm 61 = .ok (.aload_n 1, 1) := by decide +kernel
theorem dX7_readForm_62 : decode cX7_readForm 62 = .ok (.invokevirtual 126, 3) := by decide +kernel
theorem dX7_readForm_65 : decode cX7_readForm 65 = .ok (.aload_n 0, 1) := by decide +kernel
theorem dX7_readForm_66 : decode cX7_readForm 66 = .ok (.getfield 45, 3) := by decide +kernel
theorem dX7_readForm_69 : decode cX7_readForm 69 = .ok (.ifCond .ne 27, 3) := by decide +kernel
theorem dX7_readForm_72 : decode cX7_readForm 72 = .ok (.aload_n 0, 1) := by decide +kernel
theorem dX7_readForm_73 : decode cX7_readForm 73 = .ok (.getfield 33, 3) := by decide +kernel
theorem dX7_readForm_76 : decode cX7_readForm 76 = .ok (.iconst 3, 1) := by decide +kernel
theorem dX7_readForm_77 : decode cX7_readForm 77 = .ok (.if_icmp .ne 19, 3) := by decide +kernel
theorem dX7_readForm_80 : decode cX7_readForm 80 = .ok (.aload_n 1, 1) := by decide +kernel
theorem dX7_readForm_81 : decode cX7_readForm 81 = .ok (.invokevirtual 129, 3) := by decide +kernel
theorem dX7_readForm_84 : decode cX7_readForm 84 = .ok (.aload_n 1, 1) := by decide +kernel
theorem dX7_readForm_85 : decode cX7_readForm 85 = .ok (.invokevirtual 132, 3) := by decide +kernel
theorem dX7_readForm_88 : decode cX7_readForm 88 = .ok (.ifCond .ne 8, 3) := by decide +kernel
theorem dX7_readForm_91 : decode cX7_readForm 91 = .ok (.aload_n 0, 1) := by decide +kernel
theorem dX7_readForm_92 : decode cX7_readForm 92 = .ok (.iconst 2, 1) := by decide +kernel
theorem dX7_readForm_93 : decode cX7_readForm 93 = .ok (.invokevirtual 68, 3) := by decide +kernel
theorem dX7_readForm_96 : decode cX7_readForm 96 = .ok (.return_, 1) := by decide +kernel
theorem dX7_readColumns_0 : decode cX7_readColumns 0 = .ok (.aload_n 1, 1) := by decide +kernel
theorem dX7_readColumns_1 : decode cX7_readColumns 1 = .ok (.iconst 0, 1) := by decide +kernel
theorem dX7_readColumns_2 : decode cX7_readColumns 2 = .ok (.putfield 136, 3) := by decide +kernel
theorem dX7_readColumns_5 : decode cX7_readColumns 5 = .ok (.iconst 0, 1) := by decide +kernel
theorem dX7_readColumns_6 : decode cX7_readColumns 6 = .ok (.istore_n 2, 1) := by decide +kernel
theorem dX7_readColumns_7 : decode cX7_readColumns 7 = .ok (.iload_n 2, 1) := by decide +kernel
theorem dX7_readColumns_8 : decode cX7_readColumns 8 = .ok (.iconst 5, 1) := by decide +kernel
theorem dX7_readColumns_9 : decode cX7_readColumns 9 = .ok (.if_icmp .ge 51, 3) := by decide +kernel
theorem dX7_readColumns_12 : decode cX7_readColumns 12 = .ok (.iload_n 2, 1) := by decide +kernel
theorem dX7_readColumns_13 : decode cX7_readColumns 13 = .ok (.ifCond .eq 11, 3) := by decide +kernel
theorem dX7_readColumns_16 : decode cX7_readColumns 16 = .ok (.aload_n 0, 1) := by decide +kernel
theorem dX7_readColumns_17 : decode cX7_readColumns 17 = .ok (.getfield 33, 3) := by decide +kernel
theorem dX7_readColumns_20 : decode cX7_readColumns 20 = .ok (.iconst 2, 1) := by decide +kernel
theorem dX7_readColumns_21 : decode cX7_readColumns 21 = .ok (.if_icmp .ne 39, 3) := by decide +kernel
theorem dX7_readColumns_24 : decode cX7_readColumns 24 = .ok (.aload_n 0, 1) := by decide +kernel
theorem dX7_readColumns_25 : decode cX7_readColumns 25 = .ok (.getfield 45, 3) := by decide +kernel
theorem dX7_readColumns_28 : decode cX7_readColumns 28 = .ok (.ifCond .ne 32, 3) := by decide +kernel
theorem dX7_readColumns_31 : decode cX7_readColumns 31 = .ok (.aload_n 1, 1) := by decide +kernel
theorem dX7_readColumns_32 : decode cX7_readColumns 32 = .ok (.getfield 138, 3) := by decide +kernel
theorem dX7_readColumns_35 : decode cX7_readColumns 35 = .ok (.iload_n 2, 1) := by decide +kernel
theorem dX7_readColumns_36 : decode cX7_readColumns 36 = .ok (.aload_n 0, 1) := by decide +kernel
theorem dX7_readColumns_37 : decode cX7_readColumns 37 = .ok (.iconst 1, 1) := by decide +kernel
theorem dX7_readColumns_38 : decode cX7_readColumns 38 = .ok (.bipush 15, 2) := by decide +kernel
theorem dX7_readColumns_40 : decode cX7_readColumns 40 = .ok (.invokevirtual 103, 3) := by decide +kernel
theorem dX7_readColumns_43 : decode cX7_readColumns 43 = .ok (.iastore, 1) := by decide +kernel
theorem dX7_readColumns_44 : decode cX7_readColumns 44 = .ok (.aload_n 1, 1) := by decide +kernel
theorem dX7_readColumns_45 : decode cX7_readColumns 45 = .ok (.dup, 1) := by decide +kernel
theorem dX7_readColumns_46 : decode cX7_readColumns 46 = .ok (.getfield 136, 3) := by decide +kernel
theorem dX7_readColumns_49 : decode cX7_readColumns 49 = .ok (.iconst 1, 1) := by decide +kernel
theorem dX7_readColumns_50 : decode cX7_readColumns 50 = .ok (.iadd, 1) := by decide +kernel
theorem dX7_readColumns_51 : decode cX7_readColumns 51 = .ok (.putfield 136, 3) := by decide +kernel
theorem dX7_readColumns_54 : decode cX7_readColumns 54 = .ok (.iinc 2 1, 3) := by decide +kernel
theorem dX7_readColumns_57 : decode cX7_readColumns 57 = .ok (.goto (-50), 3) := by decide +kernel
theorem dX7_readColumns_60 : decode cX7_readColumns 60 = .ok (.aload_n 0, 1) := by decide +kernel
theorem dX7_readColumns_61 : decode cX7_readColumns 61 = .ok (.getfield 45, 3) := by decide +kernel
theorem dX7_readColumns_64 : decode cX7_readColumns 64 = .ok (.ifCond .ne 30, 3) := by decide +kernel
theorem dX7_readColumns_67 : decode cX7_readColumns 67 = .ok (.aload_n 0, 1) := by decide +kernel
theorem dX7_readColumns_68 : decode cX7_readColumns 68 = .ok (.getfield 33, 3) := by decide +kernel
theorem dX7_readColumns_71 : decode cX7_readColumns 71 = .ok (.iconst 2, 1) := by decide +kernel
theorem dX7_readColumns_72 : decode cX7_readColumns 72 = .ok (.if_icmp .ne 22, 3) := by decide +kernel
theorem dX7_readColumns_75 : decode cX7_readColumns 75 = .ok (.aload_n 0, 1) := by decide +kernel
theorem dX7_readColumns_76 : decode cX7_readColumns 76 = .ok (.aload_n 0, 1) := by decide +kernel
theorem dX7_readColumns_77 : decode cX7_readColumns 77 = .ok (.iconst 1, 1) := by decide +kernel
theorem dX7_readColumns_78 : decode cX7_readColumns 78 = .ok (.bipush 15, 2) := by decide +kernel
theorem dX7_readColumns_80 : decode cX7_readColumns 80 = .ok (.invokevirtual 141, 3) := by decide +kernel
theorem dX7_readColumns_83 : decode cX7_readColumns 83 = .ok (.ifCond .eq 7, 3) := by decide +kernel
theorem dX7_readColumns_86 : decode cX7_readColumns 86 = .ok (.iconst 3, 1) := by decide +kernel
theorem dX7_readColumns_87 : decode cX7_readColumns 87 = .ok (.goto 4, 3) := by decide +kernel
theorem dX7_readColumns_90 : decode cX7_readColumns 90 = .ok (.iconst 2, 1) := by decide +kernel
theorem dX7_readColumns_91 : decode cX7_readColumns 91 = .ok (.invokevirtual 68, 3) := by decide +kernel
theorem dX7_readColumns_94 : decode cX7_readColumns 94 = .ok (.return_, 1) := by decide +kernel
theorem dX7_readPrize_0 : decode cX7_readPrize 0 = .ok (.aload_n 0, 1) := by decide +kernel
theorem dX7_readPrize_1 : decode cX7_readPrize 1 = .ok (.ldc 80, 2) := by decide +kernel
theorem dX7_readPrize_3 : decode cX7_readPrize 3 = .ok (.invokevirtual 98, 3) := by decide +kernel
theorem dX7_readPrize_6 : decode cX7_readPrize 6 = .ok (.iconst 0, 1) := by decide +kernel
theorem dX7_readPrize_7 : decode cX7_readPrize 7 = .ok (.istore_n 2, 1) := by decide +kernel
theorem dX7_readPrize_8 : decode cX7_readPrize 8 = .ok (.aload_n 0, 1) := by decide +kernel
theorem dX7_readPrize_9 : decode cX7_readPrize 9 = .ok (.ldc 145, 2) := by decide +kernel
theorem dX7_readPrize_11 : decode cX7_readPrize 11 = .ok (.invokevirtual 61, 3) := by decide +kernel
theorem dX7_readPrize_14 : decode cX7_readPrize 14 = .ok (.ifCond .eq 8, 3) := by decide +kernel
theorem dX7_readPrize_17 : decode cX7_readPrize 17 = .ok (.iconst 1, 1) := by decide +kernel
theorem dX7_readPrize_18 : decode cX7_readPrize 18 = .ok (.istore_n 2, 1) := by decide +kernel
theorem dX7_readPrize_19 : decode cX7_readPrize 19 = .ok (.goto 31, 3) := by decide +kernel
theorem dX7_readPrize_22 : decode cX7_readPrize 22 = .ok (.aload_n 0, 1) := by decide +kernel
theorem dX7_readPrize_23 : decode cX7_readPrize 23 = .ok (.ldc 147, 2) := by decide +kernel
theorem dX7_readPrize_25 : decode cX7_readPrize 25 = .ok (.invokevirtual 61, 3) := by decide +kernel
theorem dX7_readPrize_28 : decode cX7_readPrize 28 = .ok (.ifCond .eq 8, 3) := by decide +kernel
theorem dX7_readPrize_31 : decode cX7_readPrize 31 = .ok (.iconst 2, 1) := by decide +kernel
theorem dX7_readPrize_32 : decode cX7_readPrize 32 = .ok (.istore_n 2, 1) := by decide +kernel
theorem dX7_readPrize_33 : decode cX7_readPrize 33 = .ok (.goto 17, 3) := by decide +kernel
theorem dX7_readPrize_36 : decode cX7_readPrize 36 = .ok (.aload_n 0, 1) := by decide +kernel
theorem dX7_readPrize_37 : decode cX7_readPrize 37 = .ok (.ldc 149, 2) := by decide +kernel
theorem dX7_readPrize_39 : decode cX7_readPrize 39 = .ok (.invokevirtual 61, 3) := by decide +kernel
theorem dX7_readPrize_42 : decode cX7_readPrize 42 = .ok (.ifCond .ne 8, 3) := by decide +kernel
theorem dX7_readPrize_45 : decode cX7_readPrize 45 = .ok (.aload_n 0, 1) := by decide +kernel
theorem dX7_readPrize_46 : decode cX7_readPrize 46 = .ok (.iconst 1, 1) := by decide +kernel
theorem dX7_readPrize_47 : decode cX7_readPrize 47 = .ok (.invokevirtual 68, 3) := by decide +kernel
theorem dX7_readPrize_50 : decode cX7_readPrize 50 = .ok (.aload_n 0, 1) := by decide +kernel
theorem dX7_readPrize_51 : decode cX7_readPrize 51 = .ok (.invokevirtual 56, 3) := by decide +kernel
theorem dX7_readPrize_54 : decode cX7_readPrize 54 = .ok (.aload_n 1, 1) := by decide +kernel
theorem dX7_readPrize_55 : decode cX7_readPrize 55 = .ok (.getfield 151, 3) := by decide +kernel
theorem dX7_readPrize_58 : decode cX7_readPrize 58 = .ok (.iload_n 2, 1) := by decide +kernel
theorem dX7_readPrize_59 : decode cX7_readPrize 59 = .ok (.aload_n 0, 1) := by decide +kernel
theorem dX7_readPrize_60 : decode cX7_readPrize 60 = .ok (.iconst 0, 1) := by decide +kernel
theorem dX7_readPrize_61 : decode cX7_readPrize 61 = .ok (.sipush 9999, 3) := by decide +kernel
theorem dX7_readPrize_64 : decode cX7_readPrize 64 = .ok (.invokevirtual 103, 3) := by decide +kernel
theorem dX7_readPrize_67 : decode cX7_readPrize 67 = .ok (.iastore, 1) := by decide +kernel
theorem dX7_readPrize_68 : decode cX7_readPrize 68 = .ok (.return_, 1) := by decide +kernel
theorem dX7_readJackpot_0 : decode cX7_readJackpot 0 = .ok (.aload_n 0, 1) := by decide +kernel
theorem dX7_readJackpot_1 : decode cX7_readJackpot 1 = .ok (.ldc 86, 2) := by decide +kernel
theorem dX7_readJackpot_3 : decode cX7_readJackpot 3 = .ok (.invokevirtual 98, 3) := by decide +kernel
theorem dX7_readJackpot_6 : decode cX7_readJackpot 6 = .ok (.aload_n 1, 1) := by decide +kernel
theorem dX7_readJackpot_7 : decode cX7_readJackpot 7 = .ok (.aload_n 0, 1) := by decide +kernel
theorem dX7_readJackpot_8 : decode cX7_readJackpot 8 = .ok (.iconst 0, 1) := by decide +kernel
theorem dX7_readJackpot_9 : decode cX7_readJackpot 9 = .ok (.sipush 9999, 3) := by decide +kernel
theorem dX7_readJackpot_12 : decode cX7_readJackpot 12 = .ok (.invokevirtual 103, 3) := by decide +kernel
theorem dX7_readJackpot_15 : decode cX7_readJackpot 15 = .ok (.putfield 154, 3) := by decide +kernel
theorem dX7_readJackpot_18 : decode cX7_readJackpot 18 = .ok (.aload_n 0, 1) := by decide +kernel
theorem dX7_readJackpot_19 : decode cX7_readJackpot 19 = .ok (.ldc 157, 2) := by decide +kernel
theorem dX7_readJackpot_21 : decode cX7_readJackpot 21 = .ok (.invokevirtual 98, 3) := by decide +kernel
theorem dX7_readJackpot_24 : decode cX7_readJackpot 24 = .ok (.aload_n 1, 1) := by decide +kernel
theorem dX7_readJackpot_25 : decode cX7_readJackpot 25 = .ok (.aload_n 0, 1) := by decide +kernel
theorem dX7_readJackpot_26 : decode cX7_readJackpot 26 = .ok (.iconst 1, 1) := by decide +kernel
theorem dX7_readJackpot_27 : decode cX7_readJackpot 27 = .ok (.aload_n 1, 1) := by decide +kernel
theorem dX7_readJackpot_28 : decode cX7_readJackpot 28 = .ok (.getfield 72, 3) := by decide +kernel
theorem dX7_readJackpot_31 : decode cX7_readJackpot 31 = .ok (.getfield 159, 3) := by decide +kernel
theorem dX7_readJackpot_34 : decode cX7_readJackpot 34 = .ok (.invokevirtual 103, 3) := by decide +kernel
theorem dX7_readJackpot_37 : decode cX7_readJackpot 37 = .ok (.putfield 162, 3) := by decide +kernel
theorem dX7_readJackpot_40 : decode cX7_readJackpot 40 = .ok (.return_, 1) := by decide +kernel
theorem dX7_readSold_0 : decode cX7_readSold 0 = .ok (.aload_n 1, 1) := by decide +kernel
theorem dX7_readSold_1 : decode cX7_readSold 1 = .ok (.getfield 164, 3) := by decide +kernel
theorem dX7_readSold_4 : decode cX7_readSold 4 = .ok (.bipush 8, 2) := by decide +kernel
theorem dX7_readSold_6 : decode cX7_readSold 6 = .ok (.if_icmp .lt 8, 3) := by decide +kernel
theorem dX7_readSold_9 : decode cX7_readSold 9 = .ok (.aload_n 0, 1) := by decide +kernel
theorem dX7_readSold_10 : decode cX7_readSold 10 = .ok (.iconst 3, 1) := by decide +kernel
theorem dX7_readSold_11 : decode cX7_readSold 11 = .ok (.invokevirtual 68, 3) := by decide +kernel
theorem dX7_readSold_14 : decode cX7_readSold 14 = .ok (.aload_n 0, 1) := by decide +kernel
theorem dX7_readSold_15 : decode cX7_readSold 15 = .ok (.ldc 91, 2) := by decide +kernel
theorem dX7_readSold_17 : decode cX7_readSold 17 = .ok (.invokevirtual 98, 3) := by decide +kernel
theorem dX7_readSold_20 : decode cX7_readSold 20 = .ok (.aload_n 0, 1) := by decide +kernel
theorem dX7_readSold_21 : decode cX7_readSold 21 = .ok (.iconst 0, 1) := by decide +kernel
theorem dX7_readSold_22 : decode cX7_readSold 22 = .ok (.sipush 9999, 3) := by decide +kernel
theorem dX7_readSold_25 : decode cX7_readSold 25 = .ok (.invokevirtual 141, 3) := by decide +kernel
theorem dX7_readSold_28 : decode cX7_readSold 28 = .ok (.ifCond .eq 45, 3) := by decide +kernel
theorem dX7_readSold_31 : decode cX7_readSold 31 = .ok (.aload_n 0, 1) := by decide +kernel
theorem dX7_readSold_32 : decode cX7_readSold 32 = .ok (.getfield 45, 3) := by decide +kernel
theorem dX7_readSold_35 : decode cX7_readSold 35 = .ok (.ifCond .ne 38, 3) := by decide +kernel
theorem dX7_readSold_38 : decode cX7_readSold 38 = .ok (.aload_n 0, 1) := by decide +kernel
theorem dX7_readSold_39 : decode cX7_readSold 39 = .ok (.getfield 22, 3) := by decide +kernel
theorem dX7_readSold_42 : decode cX7_readSold 42 = .ok (.aload_n 1, 1) := by decide +kernel
theorem dX7_readSold_43 : decode cX7_readSold 43 = .ok (.getfield 72, 3) := by decide +kernel
theorem dX7_readSold_46 : decode cX7_readSold 46 = .ok (.aload_n 0, 1) := by decide +kernel
theorem dX7_readSold_47 : decode cX7_readSold 47 = .ok (.getfield 39, 3) := by decide +kernel
theorem dX7_readSold_50 : decode cX7_readSold 50 = .ok (.aload_n 0, 1) := by decide +kernel
theorem dX7_readSold_51 : decode cX7_readSold 51 = .ok (.getfield 26, 3) := by decide +kernel
theorem dX7_readSold_54 : decode cX7_readSold 54 = .ok (.invokevirtual 167, 3) := by decide +kernel
theorem dX7_readSold_57 : decode cX7_readSold 57 = .ok (.aload_n 1, 1) := by decide +kernel
theorem dX7_readSold_58 : decode cX7_readSold 58 = .ok (.aload_n 0, 1) := by decide +kernel
theorem dX7_readSold_59 : decode cX7_readSold 59 = .ok (.getfield 26, 3) := by decide +kernel
theorem dX7_readSold_62 : decode cX7_readSold 62 = .ok (.invokevirtual 171, 3) := by decide +kernel
theorem dX7_readSold_65 : decode cX7_readSold 65 = .ok (.ifCond .eq 8, 3) := by decide +kernel
theorem dX7_readSold_68 : decode cX7_readSold 68 = .ok (.aload_n 0, 1) := by decide +kernel
theorem dX7_readSold_69 : decode cX7_readSold 69 = .ok (.iconst 2, 1) := by decide +kernel
theorem dX7_readSold_70 : decode cX7_readSold 70 = .ok (.invokevirtual 68, 3) := by decide +kernel
theorem dX7_readSold_73 : decode cX7_readSold 73 = .ok (.aload_n 0, 1) := by decide +kernel
theorem dX7_readSold_74 : decode cX7_readSold 74 = .ok (.iconst 0, 1) := by decide +kernel
theorem dX7_readSold_75 : decode cX7_readSold 75 = .ok (.sipush 9999, 3) := by decide +kernel
theorem dX7_readSold_78 : decode cX7_readSold 78 = .ok (.invokevirtual 103, 3) := by decide +kernel
theorem dX7_readSold_81 : decode cX7_readSold 81 = .ok (.istore_n 2, 1) := by decide +kernel
theorem dX7_readSold_82 : decode cX7_readSold 82 = .ok (.aload_n 0, 1) := by decide +kernel
theorem dX7_readSold_83 : decode cX7_readSold 83 = .ok (.getfield 45, 3) := by decide +kernel
theorem dX7_readSold_86 : decode cX7_readSold 86 = .ok (.ifCond .ne 12, 3) := by decide +kernel
theorem dX7_readSold_89 : decode cX7_readSold 89 = .ok (.aload_n 1, 1) := by decide +kernel
theorem dX7_readSold_90 : decode cX7_readSold 90 = .ok (.iload_n 2, 1) := by decide +kernel
theorem dX7_readSold_91 : decode cX7_readSold 91 = .ok (.aload_n 0, 1) := by decide +kernel
theorem dX7_readSold_92 : decode cX7_readSold 92 = .ok (.getfield 26, 3) := by decide +kernel
theorem dX7_readSold_95 : decode cX7_readSold 95 = .ok (.invokevirtual 175, 3) := by decide +kernel
theorem dX7_readSold_98 : decode cX7_readSold 98 = .ok (.return_, 1) := by decide +kernel
theorem dX7_fail_0 : decode cX7_fail 0 = .ok (.aload_n 0, 1) := by decide +kernel
theorem dX7_fail_1 : decode cX7_fail 1 = .ok (.getfield 45, 3) := by decide +kernel
theorem dX7_fail_4 : decode cX7_fail 4 = .ok (.ifCond .ne 16, 3) := by decide +kernel
theorem dX7_fail_7 : decode cX7_fail 7 = .ok (.aload_n 0, 1) := by decide +kernel
theorem dX7_fail_8 : decode cX7_fail 8 = .ok (.iload_n 1, 1) := by decide +kernel
theorem dX7_fail_9 : decode cX7_fail 9 = .ok (.putfield 45, 3) := by decide +kernel
theorem dX7_fail_12 : decode cX7_fail 12 = .ok (.aload_n 0, 1) := by decide +kernel
theorem dX7_fail_13 : decode cX7_fail 13 = .ok (.aload_n 0, 1) := by decide +kernel
theorem dX7_fail_14 : decode cX7_fail 14 = .ok (.getfield 36, 3) := by decide +kernel
theorem dX7_fail_17 : decode cX7_fail 17 = .ok (.putfield 48, 3) := by decide +kernel
theorem dX7_fail_20 : decode cX7_fail 20 = .ok (.return_, 1) := by decide +kernel
theorem dX7_takeWord_0 : decode cX7_takeWord 0 = .ok (.aload_n 0, 1) := by decide +kernel
theorem dX7_takeWord_1 : decode cX7_takeWord 1 = .ok (.aload_n 1, 1) := by decide +kernel
theorem dX7_takeWord_2 : decode cX7_takeWord 2 = .ok (.invokevirtual 61, 3) := by decide +kernel
theorem dX7_takeWord_5 : decode cX7_takeWord 5 = .ok (.ifCond .ne 8, 3) := by decide +kernel
theorem dX7_takeWord_8 : decode cX7_takeWord 8 = .ok (.aload_n 0, 1) := by decide +kernel
theorem dX7_takeWord_9 : decode cX7_takeWord 9 = .ok (.iconst 1, 1) := by decide +kernel
theorem dX7_takeWord_10 : decode cX7_takeWord 10 = .ok (.invokevirtual 68, 3) := by decide +kernel
theorem dX7_takeWord_13 : decode cX7_takeWord 13 = .ok (.aload_n 0, 1) := by decide +kernel
theorem dX7_takeWord_14 : decode cX7_takeWord 14 = .ok (.invokevirtual 56, 3) := by decide +kernel
theorem dX7_takeWord_17 : decode cX7_takeWord 17 = .ok (.return_, 1) := by decide +kernel
theorem dX7_takeNumber_0 : decode cX7_takeNumber 0 = .ok (.aload_n 0, 1) := by decide +kernel
theorem dX7_takeNumber_1 : decode cX7_takeNumber 1 = .ok (.getfield 33, 3) := by decide +kernel
theorem dX7_takeNumber_4 : decode cX7_takeNumber 4 = .ok (.iconst 2, 1) := by decide +kernel
theorem dX7_takeNumber_5 : decode cX7_takeNumber 5 = .ok (.if_icmp .eq 11, 3) := by decide +kernel
theorem dX7_takeNumber_8 : decode cX7_takeNumber 8 = .ok (.aload_n 0, 1) := by decide +kernel
theorem dX7_takeNumber_9 : decode cX7_takeNumber 9 = .ok (.iconst 1, 1) := by decide +kernel
theorem dX7_takeNumber_10 : decode cX7_takeNumber 10 = .ok (.invokevirtual 68, 3) := by decide +kernel
theorem dX7_takeNumber_13 : decode cX7_takeNumber 13 = .ok (.goto 17, 3) := by decide +kernel
theorem dX7_takeNumber_16 : decode cX7_takeNumber 16 = .ok (.aload_n 0, 1) := by decide +kernel
theorem dX7_takeNumber_17 : decode cX7_takeNumber 17 = .ok (.iload_n 1, 1) := by decide +kernel
theorem dX7_takeNumber_18 : decode cX7_takeNumber 18 = .ok (.iload_n 2, 1) := by decide +kernel
theorem dX7_takeNumber_19 : decode cX7_takeNumber 19 = .ok (.invokevirtual 141, 3) := by decide +kernel
theorem dX7_takeNumber_22 : decode cX7_takeNumber 22 = .ok (.ifCond .ne 8, 3) := by decide +kernel
theorem dX7_takeNumber_25 : decode cX7_takeNumber 25 = .ok (.aload_n 0, 1) := by decide +kernel
theorem dX7_takeNumber_26 : decode cX7_takeNumber 26 = .ok (.iconst 2, 1) := by decide +kernel
theorem dX7_takeNumber_27 : decode cX7_takeNumber 27 = .ok (.invokevirtual 68, 3) := by decide +kernel
theorem dX7_takeNumber_30 : decode cX7_takeNumber 30 = .ok (.aload_n 0, 1) := by decide +kernel
theorem dX7_takeNumber_31 : decode cX7_takeNumber 31 = .ok (.getfield 45, 3) := by decide +kernel
theorem dX7_takeNumber_34 : decode cX7_takeNumber 34 = .ok (.ifCond .ne 10, 3) := by decide +kernel
theorem dX7_takeNumber_37 : decode cX7_takeNumber 37 = .ok (.aload_n 0, 1) := by decide +kernel
theorem dX7_takeNumber_38 : decode cX7_takeNumber 38 = .ok (.getfield 39, 3) := by decide +kernel
theorem dX7_takeNumber_41 : decode cX7_takeNumber 41 = .ok (.goto 4, 3) := by decide +kernel
theorem dX7_takeNumber_44 : decode cX7_takeNumber 44 = .ok (.iload_n 1, 1) := by decide +kernel
theorem dX7_takeNumber_45 : decode cX7_takeNumber 45 = .ok (.istore_n 3, 1) := by decide +kernel
theorem dX7_takeNumber_46 : decode cX7_takeNumber 46 = .ok (.aload_n 0, 1) := by decide +kernel
theorem dX7_takeNumber_47 : decode cX7_takeNumber 47 = .ok (.invokevirtual 56, 3) := by decide +kernel
theorem dX7_takeNumber_50 : decode cX7_takeNumber 50 = .ok (.iload_n 3, 1) := by decide +kernel
theorem dX7_takeNumber_51 : decode cX7_takeNumber 51 = .ok (.ireturn, 1) := by decide +kernel
theorem dX7_takeSign_0 : decode cX7_takeSign 0 = .ok (.aload_n 0, 1) := by decide +kernel
theorem dX7_takeSign_1 : decode cX7_takeSign 1 = .ok (.getfield 33, 3) := by decide +kernel
theorem dX7_takeSign_4 : decode cX7_takeSign 4 = .ok (.iconst 3, 1) := by decide +kernel
theorem dX7_takeSign_5 : decode cX7_takeSign 5 = .ok (.if_icmp .eq 8, 3) := by decide +kernel
theorem dX7_takeSign_8 : decode cX7_takeSign 8 = .ok (.aload_n 0, 1) := by decide +kernel
theorem dX7_takeSign_9 : decode cX7_takeSign 9 = .ok (.iconst 1, 1) := by decide +kernel
theorem dX7_takeSign_10 : decode cX7_takeSign 10 = .ok (.invokevirtual 68, 3) := by decide +kernel
theorem dX7_takeSign_13 : decode cX7_takeSign 13 = .ok (.aload_n 0, 1) := by decide +kernel
theorem dX7_takeSign_14 : decode cX7_takeSign 14 = .ok (.invokevirtual 56, 3) := by decide +kernel
theorem dX7_takeSign_17 : decode cX7_takeSign 17 = .ok (.return_, 1) := by decide +kernel
theorem dX7_isNumberOf_0 : decode cX7_isNumberOf 0 = .ok (.aload_n 0, 1) := by decide +kernel
theorem dX7_isNumberOf_1 : decode cX7_isNumberOf 1 = .ok (.getfield 33, 3) := by decide +kernel
theorem dX7_isNumberOf_4 : decode cX7_isNumberOf 4 = .ok (.iconst 2, 1) := by decide +kernel
theorem dX7_isNumberOf_5 : decode cX7_isNumberOf 5 = .ok (.if_icmp .ne 23, 3) := by decide +kernel
theorem dX7_isNumberOf_8 : decode cX7_isNumberOf 8 = .ok (.aload_n 0, 1) := by decide +kernel
theorem dX7_isNumberOf_9 : decode cX7_isNumberOf 9 = .ok (.getfield 39, 3) := by decide +kernel
theorem dX7_isNumberOf_12 : decode cX7_isNumberOf 12 = .ok (.iload_n 1, 1) := by decide +kernel
theorem dX7_isNumberOf_13 : decode cX7_isNumberOf 13 = .ok (.if_icmp .lt 15, 3) := by decide +kernel
theorem dX7_isNumberOf_16 : decode cX7_isNumberOf 16 = .ok (.aload_n 0, 1) := by decide +kernel
theorem dX7_isNumberOf_17 : decode cX7_isNumberOf 17 = .ok (.getfield 39, 3) := by decide +kernel
theorem dX7_isNumberOf_20 : decode cX7_isNumberOf 20 = .ok (.iload_n 2, 1) := by decide +kernel
theorem dX7_isNumberOf_21 : decode cX7_isNumberOf 21 = .ok (.if_icmp .gt 7, 3) := by decide +kernel
theorem dX7_isNumberOf_24 : decode cX7_isNumberOf 24 = .ok (.iconst 1, 1) := by decide +kernel
theorem dX7_isNumberOf_25 : decode cX7_isNumberOf 25 = .ok (.goto 4, 3) := by decide +kernel
theorem dX7_isNumberOf_28 : decode cX7_isNumberOf 28 = .ok (.iconst 0, 1) := by decide +kernel
theorem dX7_isNumberOf_29 : decode cX7_isNumberOf 29 = .ok (.ireturn, 1) := by decide +kernel
theorem dX7_isWord_0 : decode cX7_isWord 0 = .ok (.aload_n 0, 1) := by decide +kernel
theorem dX7_isWord_1 : decode cX7_isWord 1 = .ok (.getfield 33, 3) := by decide +kernel
theorem dX7_isWord_4 : decode cX7_isWord 4 = .ok (.iconst 1, 1) := by decide +kernel
theorem dX7_isWord_5 : decode cX7_isWord 5 = .ok (.if_icmp .ne 19, 3) := by decide +kernel
theorem dX7_isWord_8 : decode cX7_isWord 8 = .ok (.aload_n 0, 1) := by decide +kernel
theorem dX7_isWord_9 : decode cX7_isWord 9 = .ok (.getfield 30, 3) := by decide +kernel
theorem dX7_isWord_12 : decode cX7_isWord 12 = .ok (.aload_n 0, 1) := by decide +kernel
theorem dX7_isWord_13 : decode cX7_isWord 13 = .ok (.getfield 36, 3) := by decide +kernel
theorem dX7_isWord_16 : decode cX7_isWord 16 = .ok (.isub, 1) := by decide +kernel
theorem dX7_isWord_17 : decode cX7_isWord 17 = .ok (.aload_n 1, 1) := by decide +kernel
theorem dX7_isWord_18 : decode cX7_isWord 18 = .ok (.invokevirtual 179, 3) := by decide +kernel
theorem dX7_isWord_21 : decode cX7_isWord 21 = .ok (.if_icmp .eq 5, 3) := by decide +kernel
theorem dX7_isWord_24 : decode cX7_isWord 24 = .ok (.iconst 0, 1) := by decide +kernel
theorem dX7_isWord_25 : decode cX7_isWord 25 = .ok (.ireturn, 1) := by decide +kernel
theorem dX7_isWord_26 : decode cX7_isWord 26 = .ok (.iconst 0, 1) := by decide +kernel
theorem dX7_isWord_27 : decode cX7_isWord 27 = .ok (.istore_n 2, 1) := by decide +kernel
theorem dX7_isWord_28 : decode cX7_isWord 28 = .ok (.iload_n 2, 1) := by decide +kernel
theorem dX7_isWord_29 : decode cX7_isWord 29 = .ok (.aload_n 1, 1) := by decide +kernel
theorem dX7_isWord_30 : decode cX7_isWord 30 = .ok (.invokevirtual 179, 3) := by decide +kernel
theorem dX7_isWord_33 : decode cX7_isWord 33 = .ok (.if_icmp .ge 29, 3) := by decide +kernel
theorem dX7_isWord_36 : decode cX7_isWord 36 = .ok (.aload_n 0, 1) := by decide +kernel
theorem dX7_isWord_37 : decode cX7_isWord 37 = .ok (.aload_n 0, 1) := by decide +kernel
theorem dX7_isWord_38 : decode cX7_isWord 38 = .ok (.getfield 36, 3) := by decide +kernel
theorem dX7_isWord_41 : decode cX7_isWord 41 = .ok (.iload_n 2, 1) := by decide +kernel
theorem dX7_isWord_42 : decode cX7_isWord 42 = .ok (.iadd, 1) := by decide +kernel
theorem dX7_isWord_43 : decode cX7_isWord 43 = .ok (.invokevirtual 185, 3) := by decide +kernel
theorem dX7_isWord_46 : decode cX7_isWord 46 = .ok (.aload_n 1, 1) := by decide +kernel
theorem dX7_isWord_47 : decode cX7_isWord 47 = .ok (.iload_n 2, 1) := by decide +kernel
theorem dX7_isWord_48 : decode cX7_isWord 48 = .ok (.invokevirtual 189, 3) := by decide +kernel
theorem dX7_isWord_51 : decode cX7_isWord 51 = .ok (.if_icmp .eq 5, 3) := by decide +kernel
theorem dX7_isWord_54 : decode cX7_isWord 54 = .ok (.iconst 0, 1) := by decide +kernel
theorem dX7_isWord_55 : decode cX7_isWord 55 = .ok (.ireturn, 1) := by decide +kernel
theorem dX7_isWord_56 : decode cX7_isWord 56 = .ok (.iinc 2 1, 3) := by decide +kernel
theorem dX7_isWord_59 : decode cX7_isWord 59 = .ok (.goto (-31), 3) := by decide +kernel
theorem dX7_isWord_62 : decode cX7_isWord 62 = .ok (.iconst 1, 1) := by decide +kernel
theorem dX7_isWord_63 : decode cX7_isWord 63 = .ok (.ireturn, 1) := by decide +kernel
theorem dX7_byteAt_0 : decode cX7_byteAt 0 = .ok (.iload_n 1, 1) := by decide +kernel
theorem dX7_byteAt_1 : decode cX7_byteAt 1 = .ok (.ifCond .lt 11, 3) := by decide +kernel
theorem dX7_byteAt_4 : decode cX7_byteAt 4 = .ok (.iload_n 1, 1) := by decide +kernel
theorem dX7_byteAt_5 : decode cX7_byteAt 5 = .ok (.aload_n 0, 1) := by decide +kernel
theorem dX7_byteAt_6 : decode cX7_byteAt 6 = .ok (.getfield 15, 3) := by decide +kernel
theorem dX7_byteAt_9 : decode cX7_byteAt 9 = .ok (.if_icmp .lt 7, 3) := by decide +kernel
theorem dX7_byteAt_12 : decode cX7_byteAt 12 = .ok (.iconst (-1), 1) := by decide +kernel
theorem dX7_byteAt_13 : decode cX7_byteAt 13 = .ok (.goto 13, 3) := by decide +kernel
theorem dX7_byteAt_16 : decode cX7_byteAt 16 = .ok (.aload_n 0, 1) := by decide +kernel
theorem dX7_byteAt_17 : decode cX7_byteAt 17 = .ok (.getfield 9, 3) := by decide +kernel
theorem dX7_byteAt_20 : decode cX7_byteAt 20 = .ok (.iload_n 1, 1) := by decide +kernel
theorem dX7_byteAt_21 : decode cX7_byteAt 21 = .ok (.baload, 1) := by decide +kernel
theorem dX7_byteAt_22 : decode cX7_byteAt 22 = .ok (.sipush 255, 3) := by decide +kernel
theorem dX7_byteAt_25 : decode cX7_byteAt 25 = .ok (.iand, 1) := by decide +kernel
theorem dX7_byteAt_26 : decode cX7_byteAt 26 = .ok (.ireturn, 1) := by decide +kernel
theorem dX7_takeToken_0 : decode cX7_takeToken 0 = .ok (.aload_n 0, 1) := by decide +kernel
theorem dX7_takeToken_1 : decode cX7_takeToken 1 = .ok (.getfield 30, 3) := by decide +kernel
theorem dX7_takeToken_4 : decode cX7_takeToken 4 = .ok (.aload_n 0, 1) := by decide +kernel
theorem dX7_takeToken_5 : decode cX7_takeToken 5 = .ok (.getfield 15, 3) := by decide +kernel
theorem dX7_takeToken_8 : decode cX7_takeToken 8 = .ok (.if_icmp .ge 30, 3) := by decide +kernel
theorem dX7_takeToken_11 : decode cX7_takeToken 11 = .ok (.aload_n 0, 1) := by decide +kernel
theorem dX7_takeToken_12 : decode cX7_takeToken 12 = .ok (.aload_n 0, 1) := by decide +kernel
theorem dX7_takeToken_13 : decode cX7_takeToken 13 = .ok (.getfield 30, 3) := by decide +kernel
theorem dX7_takeToken_16 : decode cX7_takeToken 16 = .ok (.invokevirtual 185, 3) := by decide +kernel
theorem dX7_takeToken_19 : decode cX7_takeToken 19 = .ok (.invokestatic 193, 3) := by decide +kernel
theorem dX7_takeToken_22 : decode cX7_takeToken 22 = .ok (.ifCond .eq 16, 3) := by decide +kernel
theorem dX7_takeToken_25 : decode cX7_takeToken 25 = .ok (.aload_n 0, 1) := by decide +kernel
theorem dX7_takeToken_26 : decode cX7_takeToken 26 = .ok (.dup, 1) := by decide +kernel
theorem dX7_takeToken_27 : decode cX7_takeToken 27 = .ok (.getfield 30, 3) := by decide +kernel
theorem dX7_takeToken_30 : decode cX7_takeToken 30 = .ok (.iconst 1, 1) := by decide +kernel
theorem dX7_takeToken_31 : decode cX7_takeToken 31 = .ok (.iadd, 1) := by decide +kernel
theorem dX7_takeToken_32 : decode cX7_takeToken 32 = .ok (.putfield 30, 3) := by decide +kernel
theorem dX7_takeToken_35 : decode cX7_takeToken 35 = .ok (.goto (-35), 3) := by decide +kernel
theorem dX7_takeToken_38 : decode cX7_takeToken 38 = .ok (.aload_n 0, 1) := by decide +kernel
theorem dX7_takeToken_39 : decode cX7_takeToken 39 = .ok (.aload_n 0, 1) := by decide +kernel
theorem dX7_takeToken_40 : decode cX7_takeToken 40 = .ok (.getfield 30, 3) := by decide +kernel
theorem dX7_takeToken_43 : decode cX7_takeToken 43 = .ok (.putfield 36, 3) := by decide +kernel
theorem dX7_takeToken_46 : decode cX7_takeToken 46 = .ok (.aload_n 0, 1) := by decide +kernel
theorem dX7_takeToken_47 : decode cX7_takeToken 47 = .ok (.iconst 0, 1) := by decide +kernel
theorem dX7_takeToken_48 : decode cX7_takeToken 48 = .ok (.putfield 39, 3) := by decide +kernel
theorem dX7_takeToken_51 : decode cX7_takeToken 51 = .ok (.aload_n 0, 1) := by decide +kernel
theorem dX7_takeToken_52 : decode cX7_takeToken 52 = .ok (.aload_n 0, 1) := by decide +kernel
theorem dX7_takeToken_53 : decode cX7_takeToken 53 = .ok (.getfield 30, 3) := by decide +kernel
theorem dX7_takeToken_56 : decode cX7_takeToken 56 = .ok (.invokevirtual 185, 3) := by decide +kernel
theorem dX7_takeToken_59 : decode cX7_takeToken 59 = .ok (.istore_n 1, 1) := by decide +kernel
theorem dX7_takeToken_60 : decode cX7_takeToken 60 = .ok (.iload_n 1, 1) := by decide +kernel
theorem dX7_takeToken_61 : decode cX7_takeToken 61 = .ok (.iconst (-1), 1) := by decide +kernel
theorem dX7_takeToken_62 : decode cX7_takeToken 62 = .ok (.if_icmp .ne 11, 3) := by decide +kernel
theorem dX7_takeToken_65 : decode cX7_takeToken 65 = .ok (.aload_n 0, 1) := by decide +kernel
theorem dX7_takeToken_66 : decode cX7_takeToken 66 = .ok (.iconst 0, 1) := by decide +kernel
theorem dX7_takeToken_67 : decode cX7_takeToken 67 = .ok (.putfield 33, 3) := by decide +kernel
theorem dX7_takeToken_70 : decode cX7_takeToken 70 = .ok (.goto 156, 3) := by decide +kernel
theorem dX7_takeToken_73 : decode cX7_takeToken 73 = .ok (.iload_n 1, 1) := by decide +kernel
theorem dX7_takeToken_74 : decode cX7_takeToken 74 = .ok (.invokestatic 197, 3) := by decide +kernel
theorem dX7_takeToken_77 : decode cX7_takeToken 77 = .ok (.ifCond .eq 46, 3) := by decide +kernel
theorem dX7_takeToken_80 : decode cX7_takeToken 80 = .ok (.aload_n 0, 1) := by decide +kernel
theorem dX7_takeToken_81 : decode cX7_takeToken 81 = .ok (.iconst 1, 1) := by decide +kernel
theorem dX7_takeToken_82 : decode cX7_takeToken 82 = .ok (.putfield 33, 3) := by decide +kernel
theorem dX7_takeToken_85 : decode cX7_takeToken 85 = .ok (.aload_n 0, 1) := by decide +kernel
theorem dX7_takeToken_86 : decode cX7_takeToken 86 = .ok (.getfield 30, 3) := by decide +kernel
theorem dX7_takeToken_89 : decode cX7_takeToken 89 = .ok (.aload_n 0, 1) := by decide +kernel
theorem dX7_takeToken_90 : decode cX7_takeToken 90 = .ok (.getfield 15, 3) := by decide +kernel
theorem dX7_takeToken_93 : decode cX7_takeToken 93 = .ok (.if_icmp .ge 133, 3) := by decide +kernel
theorem dX7_takeToken_96 : decode cX7_takeToken 96 = .ok (.aload_n 0, 1) := by decide +kernel
theorem dX7_takeToken_97 : decode cX7_takeToken 97 = .ok (.aload_n 0, 1) := by decide +kernel
theorem dX7_takeToken_98 : decode cX7_takeToken 98 = .ok (.getfield 30, 3) := by decide +kernel
theorem dX7_takeToken_101 : decode cX7_takeToken 101 = .ok (.invokevirtual 185, 3) := by decide +kernel
theorem dX7_takeToken_104 : decode cX7_takeToken 104 = .ok (.invokestatic 197, 3) := by decide +kernel
theorem dX7_takeToken_107 : decode cX7_takeToken 107 = .ok (.ifCond .eq 119, 3) := by decide +kernel
theorem dX7_takeToken_110 : decode cX7_takeToken 110 = .ok (.aload_n 0, 1) := by decide +kernel
theorem dX7_takeToken_111 : decode cX7_takeToken 111 = .ok (.dup, 1) := by decide +kernel
theorem dX7_takeToken_112 : decode cX7_takeToken 112 = .ok (.getfield 30, 3) := by decide +kernel
theorem dX7_takeToken_115 : decode cX7_takeToken 115 = .ok (.iconst 1, 1) := by decide +kernel
theorem dX7_takeToken_116 : decode cX7_takeToken 116 = .ok (.iadd, 1) := by decide +kernel
theorem dX7_takeToken_117 : decode cX7_takeToken 117 = .ok (.putfield 30, 3) := by decide +kernel
theorem dX7_takeToken_120 : decode cX7_takeToken 120 = .ok (.goto (-35), 3) := by decide +kernel
theorem dX7_takeToken_123 : decode cX7_takeToken 123 = .ok (.iload_n 1, 1) := by decide +kernel
theorem dX7_takeToken_124 : decode cX7_takeToken 124 = .ok (.invokestatic 200, 3) := by decide +kernel
theorem dX7_takeToken_127 : decode cX7_takeToken 127 = .ok (.ifCond .eq 74, 3) := by decide +kernel
theorem dX7_takeToken_130 : decode cX7_takeToken 130 = .ok (.aload_n 0, 1) := by decide +kernel
theorem dX7_takeToken_131 : decode cX7_takeToken 131 = .ok (.iconst 2, 1) := by decide +kernel
theorem dX7_takeToken_132 : decode cX7_takeToken 132 = .ok (.putfield 33, 3) := by decide +kernel
theorem dX7_takeToken_135 : decode cX7_takeToken 135 = .ok (.aload_n 0, 1) := by decide +kernel
theorem dX7_takeToken_136 : decode cX7_takeToken 136 = .ok (.getfield 30, 3) := by decide +kernel
theorem dX7_takeToken_139 : decode cX7_takeToken 139 = .ok (.aload_n 0, 1) := by decide +kernel
theorem dX7_takeToken_140 : decode cX7_takeToken 140 = .ok (.getfield 15, 3) := by decide +kernel
theorem dX7_takeToken_143 : decode cX7_takeToken 143 = .ok (.if_icmp .ge 83, 3) := by decide +kernel
theorem dX7_takeToken_146 : decode cX7_takeToken 146 = .ok (.aload_n 0, 1) := by decide +kernel
theorem dX7_takeToken_147 : decode cX7_takeToken 147 = .ok (.aload_n 0, 1) := by decide +kernel
theorem dX7_takeToken_148 : decode cX7_takeToken 148 = .ok (.getfield 30, 3) := by decide +kernel
theorem dX7_takeToken_151 : decode cX7_takeToken 151 = .ok (.invokevirtual 185, 3) := by decide +kernel
theorem dX7_takeToken_154 : decode cX7_takeToken 154 = .ok (.invokestatic 200, 3) := by decide +kernel
theorem dX7_takeToken_157 : decode cX7_takeToken 157 = .ok (.ifCond .eq 69, 3) := by decide +kernel
theorem dX7_takeToken_160 : decode cX7_takeToken 160 = .ok (.aload_n 0, 1) := by decide +kernel
theorem dX7_takeToken_161 : decode cX7_takeToken 161 = .ok (.bipush 10, 2) := by decide +kernel
theorem dX7_takeToken_163 : decode cX7_takeToken 163 = .ok (.aload_n 0, 1) := by decide +kernel
theorem dX7_takeToken_164 : decode cX7_takeToken 164 = .ok (.getfield 39, 3) := by decide +kernel
theorem dX7_takeToken_167 : decode cX7_takeToken 167 = .ok (.imul, 1) := by decide +kernel
theorem dX7_takeToken_168 : decode cX7_takeToken 168 = .ok (.aload_n 0, 1) := by decide +kernel
theorem dX7_takeToken_169 : decode cX7_takeToken 169 = .ok (.aload_n 0, 1) := by decide +kernel
theorem dX7_takeToken_170 : decode cX7_takeToken 170 = .ok (.getfield 30, 3) := by decide +kernel
theorem dX7_takeToken_173 : decode cX7_takeToken 173 = .ok (.invokevirtual 185, 3) := by decide +kernel
theorem dX7_takeToken_176 : decode cX7_takeToken 176 = .ok (.iadd, 1) := by decide +kernel
theorem dX7_takeToken_177 : decode cX7_takeToken 177 = .ok (.bipush 48, 2) := by decide +kernel
theorem dX7_takeToken_179 : decode cX7_takeToken 179 = .ok (.isub, 1) := by decide +kernel
theorem dX7_takeToken_180 : decode cX7_takeToken 180 = .ok (.ldc 203, 2) := by decide +kernel
theorem dX7_takeToken_182 : decode cX7_takeToken 182 = .ok (.invokestatic 204, 3) := by decide +kernel
theorem dX7_takeToken_185 : decode cX7_takeToken 185 = .ok (.putfield 39, 3) := by decide +kernel
theorem dX7_takeToken_188 : decode cX7_takeToken 188 = .ok (.aload_n 0, 1) := by decide +kernel
theorem dX7_takeToken_189 : decode cX7_takeToken 189 = .ok (.dup, 1) := by decide +kernel
theorem dX7_takeToken_190 : decode cX7_takeToken 190 = .ok (.getfield 30, 3) := by decide +kernel
theorem dX7_takeToken_193 : decode cX7_takeToken 193 = .ok (.iconst 1, 1) := by decide +kernel
theorem dX7_takeToken_194 : decode cX7_takeToken 194 = .ok (.iadd, 1) := by decide +kernel
theorem dX7_takeToken_195 : decode cX7_takeToken 195 = .ok (.putfield 30, 3) := by decide +kernel
theorem dX7_takeToken_198 : decode cX7_takeToken 198 = .ok (.goto (-63), 3) := by decide +kernel
theorem dX7_takeToken_201 : decode cX7_takeToken 201 = .ok (.aload_n 0, 1) := by decide +kernel
theorem dX7_takeToken_202 : decode cX7_takeToken 202 = .ok (.iload_n 1, 1) := by decide +kernel
theorem dX7_takeToken_203 : decode cX7_takeToken 203 = .ok (.bipush 59, 2) := by decide +kernel
theorem dX7_takeToken_205 : decode cX7_takeToken 205 = .ok (.if_icmp .ne 7, 3) := by decide +kernel
theorem dX7_takeToken_208 : decode cX7_takeToken 208 = .ok (.iconst 3, 1) := by decide +kernel
theorem dX7_takeToken_209 : decode cX7_takeToken 209 = .ok (.goto 4, 3) := by decide +kernel
theorem dX7_takeToken_212 : decode cX7_takeToken 212 = .ok (.iconst 4, 1) := by decide +kernel
theorem dX7_takeToken_213 : decode cX7_takeToken 213 = .ok (.putfield 33, 3) := by decide +kernel
theorem dX7_takeToken_216 : decode cX7_takeToken 216 = .ok (.aload_n 0, 1) := by decide +kernel
theorem dX7_takeToken_217 : decode cX7_takeToken 217 = .ok (.dup, 1) := by decide +kernel
theorem dX7_takeToken_218 : decode cX7_takeToken 218 = .ok (.getfield 30, 3) := by decide +kernel
theorem dX7_takeToken_221 : decode cX7_takeToken 221 = .ok (.iconst 1, 1) := by decide +kernel
theorem dX7_takeToken_222 : decode cX7_takeToken 222 = .ok (.iadd, 1) := by decide +kernel
theorem dX7_takeToken_223 : decode cX7_takeToken 223 = .ok (.putfield 30, 3) := by decide +kernel
theorem dX7_takeToken_226 : decode cX7_takeToken 226 = .ok (.return_, 1) := by decide +kernel
theorem dX7_isBlank_0 : decode cX7_isBlank 0 = .ok (.iload_n 0, 1) := by decide +kernel
theorem dX7_isBlank_1 : decode cX7_isBlank 1 = .ok (.bipush 32, 2) := by decide +kernel
theorem dX7_isBlank_3 : decode cX7_isBlank 3 = .ok (.if_icmp .eq 9, 3) := by decide +kernel
theorem dX7_isBlank_6 : decode cX7_isBlank 6 = .ok (.iload_n 0, 1) := by decide +kernel
theorem dX7_isBlank_7 : decode cX7_isBlank 7 = .ok (.bipush 10, 2) := by decide +kernel
theorem dX7_isBlank_9 : decode cX7_isBlank 9 = .ok (.if_icmp .ne 7, 3) := by decide +kernel
theorem dX7_isBlank_12 : decode cX7_isBlank 12 = .ok (.iconst 1, 1) := by decide +kernel
theorem dX7_isBlank_13 : decode cX7_isBlank 13 = .ok (.goto 4, 3) := by decide +kernel
theorem dX7_isBlank_16 : decode cX7_isBlank 16 = .ok (.iconst 0, 1) := by decide +kernel
theorem dX7_isBlank_17 : decode cX7_isBlank 17 = .ok (.ireturn, 1) := by decide +kernel
theorem dX7_isLetter_0 : decode cX7_isLetter 0 = .ok (.iload_n 0, 1) := by decide +kernel
theorem dX7_isLetter_1 : decode cX7_isLetter 1 = .ok (.bipush 97, 2) := by decide +kernel
theorem dX7_isLetter_3 : decode cX7_isLetter 3 = .ok (.if_icmp .lt 13, 3) := by decide +kernel
theorem dX7_isLetter_6 : decode cX7_isLetter 6 = .ok (.iload_n 0, 1) := by decide +kernel
theorem dX7_isLetter_7 : decode cX7_isLetter 7 = .ok (.bipush 122, 2) := by decide +kernel
theorem dX7_isLetter_9 : decode cX7_isLetter 9 = .ok (.if_icmp .gt 7, 3) := by decide +kernel
theorem dX7_isLetter_12 : decode cX7_isLetter 12 = .ok (.iconst 1, 1) := by decide +kernel
theorem dX7_isLetter_13 : decode cX7_isLetter 13 = .ok (.goto 4, 3) := by decide +kernel
theorem dX7_isLetter_16 : decode cX7_isLetter 16 = .ok (.iconst 0, 1) := by decide +kernel
theorem dX7_isLetter_17 : decode cX7_isLetter 17 = .ok (.ireturn, 1) := by decide +kernel
theorem dX7_isDigit_0 : decode cX7_isDigit 0 = .ok (.iload_n 0, 1) := by decide +kernel
theorem dX7_isDigit_1 : decode cX7_isDigit 1 = .ok (.bipush 48, 2) := by decide +kernel
theorem dX7_isDigit_3 : decode cX7_isDigit 3 = .ok (.if_icmp .lt 13, 3) := by decide +kernel
theorem dX7_isDigit_6 : decode cX7_isDigit 6 = .ok (.iload_n 0, 1) := by decide +kernel
theorem dX7_isDigit_7 : decode cX7_isDigit 7 = .ok (.bipush 57, 2) := by decide +kernel
theorem dX7_isDigit_9 : decode cX7_isDigit 9 = .ok (.if_icmp .gt 7, 3) := by decide +kernel
theorem dX7_isDigit_12 : decode cX7_isDigit 12 = .ok (.iconst 1, 1) := by decide +kernel
theorem dX7_isDigit_13 : decode cX7_isDigit 13 = .ok (.goto 4, 3) := by decide +kernel
theorem dX7_isDigit_16 : decode cX7_isDigit 16 = .ok (.iconst 0, 1) := by decide +kernel
theorem dX7_isDigit_17 : decode cX7_isDigit 17 = .ok (.ireturn, 1) := by decide +kernel
theorem dX8_init_0 : decode cX8_init 0 = .ok (.aload_n 0, 1) := by decide +kernel
theorem dX8_init_1 : decode cX8_init 1 = .ok (.invokespecial 3, 3) := by decide +kernel
theorem dX8_init_4 : decode cX8_init 4 = .ok (.aload_n 0, 1) := by decide +kernel
theorem dX8_init_5 : decode cX8_init 5 = .ok (.iconst 4, 1) := by decide +kernel
theorem dX8_init_6 : decode cX8_init 6 = .ok (.bipush 60, 2) := by decide +kernel
theorem dX8_init_8 : decode cX8_init 8 = .ok (.multianewarray 11 2, 4) := by decide +kernel
theorem dX8_init_12 : decode cX8_init 12 = .ok (.putfield 13, 3) := by decide +kernel
theorem dX8_init_15 : decode cX8_init 15 = .ok (.aload_n 0, 1) := by decide +kernel
theorem dX8_init_16 : decode cX8_init 16 = .ok (.iconst 4, 1) := by decide +kernel
theorem dX8_init_17 : decode cX8_init 17 = .ok (.newarray .int, 2) := by decide +kernel
theorem dX8_init_19 : decode cX8_init 19 = .ok (.putfield 16, 3) := by decide +kernel
theorem dX8_init_22 : decode cX8_init 22 = .ok (.aload_n 0, 1) := by decide +kernel
theorem dX8_init_23 : decode cX8_init 23 = .ok (.iconst 4, 1) := by decide +kernel
theorem dX8_init_24 : decode cX8_init 24 = .ok (.newarray .int, 2) := by decide +kernel
theorem dX8_init_26 : decode cX8_init 26 = .ok (.putfield 20, 3) := by decide +kernel
theorem dX8_init_29 : decode cX8_init 29 = .ok (.aload_n 0, 1) := by decide +kernel
theorem dX8_init_30 : decode cX8_init 30 = .ok (.iconst 4, 1) := by decide +kernel
theorem dX8_init_31 : decode cX8_init 31 = .ok (.newarray .boolean, 2) := by decide +kernel
theorem dX8_init_33 : decode cX8_init 33 = .ok (.putfield 23, 3) := by decide +kernel
theorem dX8_init_36 : decode cX8_init 36 = .ok (.return_, 1) := by decide +kernel
theorem dX8_isSlot_0 : decode cX8_isSlot 0 = .ok (.iload_n 1, 1) := by decide +kernel
theorem dX8_isSlot_1 : decode cX8_isSlot 1 = .ok (.ifCond .lt 12, 3) := by decide +kernel
theorem dX8_isSlot_4 : decode cX8_isSlot 4 = .ok (.iload_n 1, 1) := by decide +kernel
theorem dX8_isSlot_5 : decode cX8_isSlot 5 = .ok (.iconst 4, 1) := by decide +kernel
theorem dX8_isSlot_6 : decode cX8_isSlot 6 = .ok (.if_icmp .ge 7, 3) := by decide +kernel
theorem dX8_isSlot_9 : decode cX8_isSlot 9 = .ok (.iconst 1, 1) := by decide +kernel
theorem dX8_isSlot_10 : decode cX8_isSlot 10 = .ok (.goto 4, 3) := by decide +kernel
theorem dX8_isSlot_13 : decode cX8_isSlot 13 = .ok (.iconst 0, 1) := by decide +kernel
theorem dX8_isSlot_14 : decode cX8_isSlot 14 = .ok (.ireturn, 1) := by decide +kernel
theorem dX8_hasRow_0 : decode cX8_hasRow 0 = .ok (.aload_n 0, 1) := by decide +kernel
theorem dX8_hasRow_1 : decode cX8_hasRow 1 = .ok (.iload_n 1, 1) := by decide +kernel
theorem dX8_hasRow_2 : decode cX8_hasRow 2 = .ok (.invokevirtual 27, 3) := by decide +kernel
theorem dX8_hasRow_5 : decode cX8_hasRow 5 = .ok (.ifCond .eq 16, 3) := by decide +kernel
theorem dX8_hasRow_8 : decode cX8_hasRow 8 = .ok (.aload_n 0, 1) := by decide +kernel
theorem dX8_hasRow_9 : decode cX8_hasRow 9 = .ok (.getfield 23, 3) := by decide +kernel
theorem dX8_hasRow_12 : decode cX8_hasRow 12 = .ok (.iload_n 1, 1) := by decide +kernel
theorem dX8_hasRow_13 : decode cX8_hasRow 13 = .ok (.baload, 1) := by decide +kernel
theorem dX8_hasRow_14 : decode cX8_hasRow 14 = .ok (.ifCond .eq 7, 3) := by decide +kernel
theorem dX8_hasRow_17 : decode cX8_hasRow 17 = .ok (.iconst 1, 1) := by decide +kernel
theorem dX8_hasRow_18 : decode cX8_hasRow 18 = .ok (.goto 4, 3) := by decide +kernel
theorem dX8_hasRow_21 : decode cX8_hasRow 21 = .ok (.iconst 0, 1) := by decide +kernel
theorem dX8_hasRow_22 : decode cX8_hasRow 22 = .ok (.ireturn, 1) := by decide +kernel
theorem dX8_lengthOf_0 : decode cX8_lengthOf 0 = .ok (.aload_n 0, 1) := by decide +kernel
theorem dX8_lengthOf_1 : decode cX8_lengthOf 1 = .ok (.iload_n 1, 1) := by decide +kernel
theorem dX8_lengthOf_2 : decode cX8_lengthOf 2 = .ok (.invokevirtual 31, 3) := by decide +kernel
theorem dX8_lengthOf_5 : decode cX8_lengthOf 5 = .ok (.ifCond .eq 12, 3) := by decide +kernel
theorem dX8_lengthOf_8 : decode cX8_lengthOf 8 = .ok (.aload_n 0, 1) := by decide +kernel
theorem dX8_lengthOf_9 : decode cX8_lengthOf 9 = .ok (.getfield 16, 3) := by decide +kernel
theorem dX8_lengthOf_12 : decode cX8_lengthOf 12 = .ok (.iload_n 1, 1) := by decide +kernel
theorem dX8_lengthOf_13 : decode cX8_lengthOf 13 = .ok (.iaload, 1) := by decide +kernel
theorem dX8_lengthOf_14 : decode cX8_lengthOf 14 = .ok (.goto 4, 3) := by decide +kernel
theorem dX8_lengthOf_17 : decode cX8_lengthOf 17 = .ok (.iconst 0, 1) := by decide +kernel
theorem dX8_lengthOf_18 : decode cX8_lengthOf 18 = .ok (.ireturn, 1) := by decide +kernel
theorem dX8_holds_0 : decode cX8_holds 0 = .ok (.iload_n 2, 1) := by decide +kernel
theorem dX8_holds_1 : decode cX8_holds 1 = .ok (.ifCond .lt 26, 3) := by decide +kernel
theorem dX8_holds_4 : decode cX8_holds 4 = .ok (.iload_n 3, 1) := by decide +kernel
theorem dX8_holds_5 : decode cX8_holds 5 = .ok (.ifCond .lt 22, 3) := by decide +kernel
theorem dX8_holds_8 : decode cX8_holds 8 = .ok (.iload_n 2, 1) := by decide +kernel
theorem dX8_holds_9 : decode cX8_holds 9 = .ok (.i2l, 1) := by decide +kernel
theorem dX8_holds_10 : decode cX8_holds 10 = .ok (.iload_n 3, 1) := by decide +kernel
theorem dX8_holds_11 : decode cX8_holds 11 = .ok (.i2l, 1) := by decide +kernel
theorem dX8_holds_12 : decode cX8_holds 12 = .ok (.ladd, 1) := by decide +kernel
theorem dX8_holds_13 : decode cX8_holds 13 = .ok (.aload_n 0, 1) := by decide +kernel
theorem dX8_holds_14 : decode cX8_holds 14 = .ok (.iload_n 1, 1) := by decide +kernel
theorem dX8_holds_15 : decode cX8_holds 15 = .ok (.invokevirtual 34, 3) := by decide +kernel
theorem dX8_holds_18 : decode cX8_holds 18 = .ok (.i2l, 1) := by decide +kernel
theorem dX8_holds_19 : decode cX8_holds 19 = .ok (.lcmp, 1) := by decide +kernel
theorem dX8_holds_20 : decode cX8_holds 20 = .ok (.ifCond .gt 7, 3) := by decide +kernel
theorem dX8_holds_23 : decode cX8_holds 23 = .ok (.iconst 1, 1) := by decide +kernel
theorem dX8_holds_24 : decode cX8_holds 24 = .ok (.goto 4, 3) := by decide +kernel
theorem dX8_holds_27 : decode cX8_holds 27 = .ok (.iconst 0, 1) := by decide +kernel
theorem dX8_holds_28 : decode cX8_holds 28 = .ok (.ireturn, 1) := by decide +kernel
theorem dX8_valueAt_0 : decode cX8_valueAt 0 = .ok (.aload_n 0, 1) := by decide +kernel
theorem dX8_valueAt_1 : decode cX8_valueAt 1 = .ok (.iload_n 1, 1) := by decide +kernel
theorem dX8_valueAt_2 : decode cX8_valueAt 2 = .ok (.iload_n 2, 1) := by decide +kernel
theorem dX8_valueAt_3 : decode cX8_valueAt 3 = .ok (.iconst 1, 1) := by decide +kernel
theorem dX8_valueAt_4 : decode cX8_valueAt 4 = .ok (.invokevirtual 38, 3) := by decide +kernel
theorem dX8_valueAt_7 : decode cX8_valueAt 7 = .ok (.ifCond .eq 14, 3) := by decide +kernel
theorem dX8_valueAt_10 : decode cX8_valueAt 10 = .ok (.aload_n 0, 1) := by decide +kernel
theorem dX8_valueAt_11 : decode cX8_valueAt 11 = .ok (.getfield 13, 3) := by decide +kernel
theorem dX8_valueAt_14 : decode cX8_valueAt 14 = .ok (.iload_n 1, 1) := by decide +kernel
theorem dX8_valueAt_15 : decode cX8_valueAt 15 = .ok (.aaload, 1) := by decide +kernel
theorem dX8_valueAt_16 : decode cX8_valueAt 16 = .ok (.iload_n 2, 1) := by decide +kernel
theorem dX8_valueAt_17 : decode cX8_valueAt 17 = .ok (.laload, 1) := by decide +kernel
theorem dX8_valueAt_18 : decode cX8_valueAt 18 = .ok (.goto 4, 3) := by decide +kernel
theorem dX8_valueAt_21 : decode cX8_valueAt 21 = .ok (.lconst 0, 1) := by decide +kernel
theorem dX8_valueAt_22 : decode cX8_valueAt 22 = .ok (.lreturn, 1) := by decide +kernel
theorem dX8_areOfOneWidth_0 : decode cX8_areOfOneWidth 0 = .ok (.aload_n 0, 1) := by decide +kernel
theorem dX8_areOfOneWidth_1 : decode cX8_areOfOneWidth 1 = .ok (.iload_n 1, 1) := by decide +kernel
theorem dX8_areOfOneWidth_2 : decode cX8_areOfOneWidth 2 = .ok (.invokevirtual 27, 3) := by decide +kernel
theorem dX8_areOfOneWidth_5 : decode cX8_areOfOneWidth 5 = .ok (.ifCond .eq 30, 3) := by decide +kernel
theorem dX8_areOfOneWidth_8 : decode cX8_areOfOneWidth 8 = .ok (.aload_n 0, 1) := by decide +kernel
theorem dX8_areOfOneWidth_9 : decode cX8_areOfOneWidth 9 = .ok (.iload_n 2, 1) := by decide +kernel
theorem dX8_areOfOneWidth_10 : decode cX8_areOfOneWidth 10 = .ok (.invokevirtual 27, 3) := by decide +kernel
theorem dX8_areOfOneWidth_13 : decode cX8_areOfOneWidth 13 = .ok (.ifCond .eq 22, 3) := by decide +kernel
theorem dX8_areOfOneWidth_16 : decode cX8_areOfOneWidth 16 = .ok (.aload_n 0, 1) := by decide +kernel
theorem dX8_areOfOneWidth_17 : decode cX8_areOfOneWidth 17 = .ok (.getfield 20, 3) := by decide +kernel
theorem dX8_areOfOneWidth_20 : decode cX8_areOfOneWidth 20 = .ok (.iload_n 1, 1) := by decide +kernel
theorem dX8_areOfOneWidth_21 : decode cX8_areOfOneWidth 21 = .ok (.iaload, 1) := by decide +kernel
theorem dX8_areOfOneWidth_22 : decode cX8_areOfOneWidth 22 = .ok (.aload_n 0, 1) := by decide +kernel
theorem dX8_areOfOneWidth_23 : decode cX8_areOfOneWidth 23 = .ok (.getfield 20, 3) := by decide +kernel
theorem dX8_areOfOneWidth_26 : decode cX8_areOfOneWidth 26 = .ok (.iload_n 2, 1) := by decide +kernel
theorem dX8_areOfOneWidth_27 : decode cX8_areOfOneWidth 27 = .ok (.iaload, 1) := by decide +kernel
theorem dX8_areOfOneWidth_28 : decode cX8_areOfOneWidth 28 = .ok (.if_icmp .ne 7, 3) := by decide +kernel
theorem dX8_areOfOneWidth_31 : decode cX8_areOfOneWidth 31 = .ok (.iconst 1, 1) := by decide +kernel
theorem dX8_areOfOneWidth_32 : decode cX8_areOfOneWidth 32 = .ok (.goto 4, 3) := by decide +kernel
theorem dX8_areOfOneWidth_35 : decode cX8_areOfOneWidth 35 = .ok (.iconst 0, 1) := by decide +kernel
theorem dX8_areOfOneWidth_36 : decode cX8_areOfOneWidth 36 = .ok (.ireturn, 1) := by decide +kernel
theorem dX8_inUse_0 : decode cX8_inUse 0 = .ok (.iconst 0, 1) := by decide +kernel
theorem dX8_inUse_1 : decode cX8_inUse 1 = .ok (.istore_n 1, 1) := by decide +kernel
theorem dX8_inUse_2 : decode cX8_inUse 2 = .ok (.iconst 0, 1) := by decide +kernel
theorem dX8_inUse_3 : decode cX8_inUse 3 = .ok (.istore_n 2, 1) := by decide +kernel
theorem dX8_inUse_4 : decode cX8_inUse 4 = .ok (.iload_n 2, 1) := by decide +kernel
theorem dX8_inUse_5 : decode cX8_inUse 5 = .ok (.iconst 4, 1) := by decide +kernel
theorem dX8_inUse_6 : decode cX8_inUse 6 = .ok (.if_icmp .ge 21, 3) := by decide +kernel
theorem dX8_inUse_9 : decode cX8_inUse 9 = .ok (.aload_n 0, 1) := by decide +kernel
theorem dX8_inUse_10 : decode cX8_inUse 10 = .ok (.getfield 23, 3) := by decide +kernel
theorem dX8_inUse_13 : decode cX8_inUse 13 = .ok (.iload_n 2, 1) := by decide +kernel
theorem dX8_inUse_14 : decode cX8_inUse 14 = .ok (.baload, 1) := by decide +kernel
theorem dX8_inUse_15 : decode cX8_inUse 15 = .ok (.ifCond .eq 6, 3) := by decide +kernel
theorem dX8_inUse_18 : decode cX8_inUse 18 = .ok (.iinc 1 1, 3) := by decide +kernel
theorem dX8_inUse_21 : decode cX8_inUse 21 = .ok (.iinc 2 1, 3) := by decide +kernel
theorem dX8_inUse_24 : decode cX8_inUse 24 = .ok (.goto (-20), 3) := by decide +kernel
theorem dX8_inUse_27 : decode cX8_inUse 27 = .ok (.iload_n 1, 1) := by decide +kernel
theorem dX8_inUse_28 : decode cX8_inUse 28 = .ok (.ireturn, 1) := by decide +kernel
theorem dX8_begin_0 : decode cX8_begin 0 = .ok (.aload_n 0, 1) := by decide +kernel
theorem dX8_begin_1 : decode cX8_begin 1 = .ok (.iload_n 1, 1) := by decide +kernel
theorem dX8_begin_2 : decode cX8_begin 2 = .ok (.invokevirtual 27, 3) := by decide +kernel
theorem dX8_begin_5 : decode cX8_begin 5 = .ok (.ifCond .eq 44, 3) := by decide +kernel
theorem dX8_begin_8 : decode cX8_begin 8 = .ok (.iload_n 3, 1) := by decide +kernel
theorem dX8_begin_9 : decode cX8_begin 9 = .ok (.ifCond .lt 40, 3) := by decide +kernel
theorem dX8_begin_12 : decode cX8_begin 12 = .ok (.iload_n 3, 1) := by decide +kernel
theorem dX8_begin_13 : decode cX8_begin 13 = .ok (.bipush 60, 2) := by decide +kernel
theorem dX8_begin_15 : decode cX8_begin 15 = .ok (.if_icmp .gt 34, 3) := by decide +kernel
theorem dX8_begin_18 : decode cX8_begin 18 = .ok (.aload_n 0, 1) := by decide +kernel
theorem dX8_begin_19 : decode cX8_begin 19 = .ok (.getfield 13, 3) := by decide +kernel
theorem dX8_begin_22 : decode cX8_begin 22 = .ok (.iload_n 1, 1) := by decide +kernel
theorem dX8_begin_23 : decode cX8_begin 23 = .ok (.aaload, 1) := by decide +kernel
theorem dX8_begin_24 : decode cX8_begin 24 = .ok (.lconst 0, 1) := by decide +kernel
theorem dX8_begin_25 : decode cX8_begin 25 = .ok (.invokestatic 42, 3) := by decide +kernel
theorem dX8_begin_28 : decode cX8_begin 28 = .ok (.aload_n 0, 1) := by decide +kernel
theorem dX8_begin_29 : decode cX8_begin 29 = .ok (.getfield 16, 3) := by decide +kernel
theorem dX8_begin_32 : decode cX8_begin 32 = .ok (.iload_n 1, 1) := by decide +kernel
theorem dX8_begin_33 : decode cX8_begin 33 = .ok (.iload_n 3, 1) := by decide +kernel
theorem dX8_begin_34 : decode cX8_begin 34 = .ok (.iastore, 1) := by decide +kernel
theorem dX8_begin_35 : decode cX8_begin 35 = .ok (.aload_n 0, 1) := by decide +kernel
theorem dX8_begin_36 : decode cX8_begin 36 = .ok (.getfield 20, 3) := by decide +kernel
theorem dX8_begin_39 : decode cX8_begin 39 = .ok (.iload_n 1, 1) := by decide +kernel
theorem dX8_begin_40 : decode cX8_begin 40 = .ok (.iload_n 2, 1) := by decide +kernel
theorem dX8_begin_41 : decode cX8_begin 41 = .ok (.iastore, 1) := by decide +kernel
theorem dX8_begin_42 : decode cX8_begin 42 = .ok (.aload_n 0, 1) := by decide +kernel
theorem dX8_begin_43 : decode cX8_begin 43 = .ok (.getfield 23, 3) := by decide +kernel
theorem dX8_begin_46 : decode cX8_begin 46 = .ok (.iload_n 1, 1) := by decide +kernel
theorem dX8_begin_47 : decode cX8_begin 47 = .ok (.iconst 1, 1) := by decide +kernel
theorem dX8_begin_48 : decode cX8_begin 48 = .ok (.bastore, 1) := by decide +kernel
theorem dX8_begin_49 : decode cX8_begin 49 = .ok (.return_, 1) := by decide +kernel
theorem dX8_put_0 : decode cX8_put 0 = .ok (.aload_n 0, 1) := by decide +kernel
theorem dX8_put_1 : decode cX8_put 1 = .ok (.iload_n 1, 1) := by decide +kernel
theorem dX8_put_2 : decode cX8_put 2 = .ok (.iload_n 2, 1) := by decide +kernel
theorem dX8_put_3 : decode cX8_put 3 = .ok (.iconst 1, 1) := by decide +kernel
theorem dX8_put_4 : decode cX8_put 4 = .ok (.invokevirtual 38, 3) := by decide +kernel
theorem dX8_put_7 : decode cX8_put 7 = .ok (.ifCond .eq 21, 3) := by decide +kernel
theorem dX8_put_10 : decode cX8_put 10 = .ok (.aload_n 0, 1) := by decide +kernel
theorem dX8_put_11 : decode cX8_put 11 = .ok (.getfield 13, 3) := by decide +kernel
theorem dX8_put_14 : decode cX8_put 14 = .ok (.iload_n 1, 1) := by decide +kernel
theorem dX8_put_15 : decode cX8_put 15 = .ok (.aaload, 1) := by decide +kernel
theorem dX8_put_16 : decode cX8_put 16 = .ok (.iload_n 2, 1) := by decide +kernel
theorem dX8_put_17 : decode cX8_put 17 = .ok (.lload_n 3, 1) := by decide +kernel
theorem dX8_put_18 : decode cX8_put 18 = .ok (.aload_n 0, 1) := by decide +kernel
theorem dX8_put_19 : decode cX8_put 19 = .ok (.getfield 20, 3) := by decide +kernel
theorem dX8_put_22 : decode cX8_put 22 = .ok (.iload_n 1, 1) := by decide +kernel
theorem dX8_put_23 : decode cX8_put 23 = .ok (.iaload, 1) := by decide +kernel
theorem dX8_put_24 : decode cX8_put 24 = .ok (.invokestatic 48, 3) := by decide +kernel
theorem dX8_put_27 : decode cX8_put 27 = .ok (.lastore, 1) := by decide +kernel
theorem dX8_put_28 : decode cX8_put 28 = .ok (.return_, 1) := by decide +kernel
theorem dX8_cut_0 : decode cX8_cut 0 = .ok (.iload_n 2, 1) := by decide +kernel
theorem dX8_cut_1 : decode cX8_cut 1 = .ok (.tableswitch 41 0 2 #[27, 32, 37], 27) := by decide +kernel
theorem dX8_cut_28 : decode cX8_cut 28 = .ok (.lload_n 0, 1) := by decide +kernel
theorem dX8_cut_29 : decode cX8_cut 29 = .ok (.l2i, 1) := by decide +kernel
theorem dX8_cut_30 : decode cX8_cut 30 = .ok (.i2b, 1) := by decide +kernel
theorem dX8_cut_31 : decode cX8_cut 31 = .ok (.i2l, 1) := by decide +kernel
theorem dX8_cut_32 : decode cX8_cut 32 = .ok (.lreturn, 1) := by decide +kernel
theorem dX8_cut_33 : decode cX8_cut 33 = .ok (.lload_n 0, 1) := by decide +kernel
theorem dX8_cut_34 : decode cX8_cut 34 = .ok (.l2i, 1) := by decide +kernel
theorem dX8_cut_35 : decode cX8_cut 35 = .ok (.i2s, 1) := by decide +kernel
theorem dX8_cut_36 : decode cX8_cut 36 = .ok (.i2l, 1) := by decide +kernel
theorem dX8_cut_37 : decode cX8_cut 37 = .ok (.lreturn, 1) := by decide +kernel
theorem dX8_cut_38 : decode cX8_cut 38 = .ok (.lload_n 0, 1) := by decide +kernel
theorem dX8_cut_39 : decode cX8_cut 39 = .ok (.l2i, 1) := by decide +kernel
theorem dX8_cut_40 : decode cX8_cut 40 = .ok (.i2l, 1) := by decide +kernel
theorem dX8_cut_41 : decode cX8_cut 41 = .ok (.lreturn, 1) := by decide +kernel
theorem dX8_cut_42 : decode cX8_cut 42 = .ok (.lload_n 0, 1) := by decide +kernel
theorem dX8_cut_43 : decode cX8_cut 43 = .ok (.lreturn, 1) := by decide +kernel
theorem dX8_move_0 : decode cX8_move 0 = .ok (.aload_n 0, 1) := by decide +kernel
theorem dX8_move_1 : decode cX8_move 1 = .ok (.iload_n 1, 1) := by decide +kernel
theorem dX8_move_2 : decode cX8_move 2 = .ok (.iload_n 2, 1) := by decide +kernel
theorem dX8_move_3 : decode cX8_move 3 = .ok (.iload 5, 2) := by decide +kernel
theorem dX8_move_5 : decode cX8_move 5 = .ok (.invokevirtual 38, 3) := by decide +kernel
theorem dX8_move_8 : decode cX8_move 8 = .ok (.ifCond .eq 35, 3) := by decide +kernel
theorem dX8_move_11 : decode cX8_move 11 = .ok (.aload_n 0, 1) := by decide +kernel
theorem dX8_move_12 : decode cX8_move 12 = .ok (.iload_n 3, 1) := by decide +kernel
theorem dX8_move_13 : decode cX8_move 13 = .ok (.iload 4, 2) := by decide +kernel
theorem dX8_move_15 : decode cX8_move 15 = .ok (.iload 5, 2) := by decide +kernel
theorem dX8_move_17 : decode cX8_move 17 = .ok (.invokevirtual 38, 3) := by decide +kernel
theorem dX8_move_20 : decode cX8_move 20 = .ok (.ifCond .eq 23, 3) := by decide +kernel
theorem dX8_move_23 : decode cX8_move 23 = .ok (.aload_n 0, 1) := by decide +kernel
theorem dX8_move_24 : decode cX8_move 24 = .ok (.getfield 13, 3) := by decide +kernel
theorem dX8_move_27 : decode cX8_move 27 = .ok (.iload_n 1, 1) := by decide +kernel
theorem dX8_move_28 : decode cX8_move 28 = .ok (.aaload, 1) := by decide +kernel
theorem dX8_move_29 : decode cX8_move 29 = .ok (.iload_n 2, 1) := by decide +kernel
theorem dX8_move_30 : decode cX8_move 30 = .ok (.aload_n 0, 1) := by decide +kernel
theorem dX8_move_31 : decode cX8_move 31 = .ok (.getfield 13, 3) := by decide +kernel
theorem dX8_move_34 : decode cX8_move 34 = .ok (.iload_n 3, 1) := by decide +kernel
theorem dX8_move_35 : decode cX8_move 35 = .ok (.aaload, 1) := by decide +kernel
theorem dX8_move_36 : decode cX8_move 36 = .ok (.iload 4, 2) := by decide +kernel
theorem dX8_move_38 : decode cX8_move 38 = .ok (.iload 5, 2) := by decide +kernel
theorem dX8_move_40 : decode cX8_move 40 = .ok (.invokestatic 52, 3) := by decide +kernel
theorem dX8_move_43 : decode cX8_move 43 = .ok (.return_, 1) := by decide +kernel
