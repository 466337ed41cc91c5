theorem dX9_init_0 : decode cX9_init 0 = .ok (.aload_n 0, 1) := by decide +kernel
theorem dX9_init_1 : decode cX9_init 1 = .ok (.invokespecial 1, 3) := by decide +kernel
theorem dX9_init_4 : decode cX9_init 4 = .ok (.aload_n 0, 1) := by decide +kernel
theorem dX9_init_5 : decode cX9_init 5 = .ok (.new 7, 3) := by decide +kernel
theorem dX9_init_8 : decode cX9_init 8 = .ok (.dup, 1) := by decide +kernel
theorem dX9_init_9 : decode cX9_init 9 = .ok (.invokespecial 9, 3) := by decide +kernel
theorem dX9_init_12 : decode cX9_init 12 = .ok (.putfield 10, 3) := by decide +kernel
theorem dX9_init_15 : decode cX9_init 15 = .ok (.aload_n 0, 1) := by decide +kernel
theorem dX9_init_16 : decode cX9_init 16 = .ok (.new 7, 3) := by decide +kernel
theorem dX9_init_19 : decode cX9_init 19 = .ok (.dup, 1) := by decide +kernel
theorem dX9_init_20 : decode cX9_init 20 = .ok (.invokespecial 9, 3) := by decide +kernel
theorem dX9_init_23 : decode cX9_init 23 = .ok (.putfield 16, 3) := by decide +kernel
theorem dX9_init_26 : decode cX9_init 26 = .ok (.aload_n 0, 1) := by decide +kernel
theorem dX9_init_27 : decode cX9_init 27 = .ok (.iconst 3, 1) := by decide +kernel
theorem dX9_init_28 : decode cX9_init 28 = .ok (.anewarray 7, 3) := by decide +kernel
theorem dX9_init_31 : decode cX9_init 31 = .ok (.putfield 19, 3) := by decide +kernel
theorem dX9_init_34 : decode cX9_init 34 = .ok (.aload_n 0, 1) := by decide +kernel
theorem dX9_init_35 : decode cX9_init 35 = .ok (.iconst 3, 1) := by decide +kernel
theorem dX9_init_36 : decode cX9_init 36 = .ok (.newarray .boolean, 2) := by decide +kernel
theorem dX9_init_38 : decode cX9_init 38 = .ok (.putfield 23, 3) := by decide +kernel
theorem dX9_init_41 : decode cX9_init 41 = .ok (.aload_n 0, 1) := by decide +kernel
theorem dX9_init_42 : decode cX9_init 42 = .ok (.new 27, 3) := by decide +kernel
theorem dX9_init_45 : decode cX9_init 45 = .ok (.dup, 1) := by decide +kernel
theorem dX9_init_46 : decode cX9_init 46 = .ok (.invokespecial 29, 3) := by decide +kernel
theorem dX9_init_49 : decode cX9_init 49 = .ok (.putfield 30, 3) := by decide +kernel
theorem dX9_init_52 : decode cX9_init 52 = .ok (.aload_n 0, 1) := by decide +kernel
theorem dX9_init_53 : decode cX9_init 53 = .ok (.new 34, 3) := by decide +kernel
theorem dX9_init_56 : decode cX9_init 56 = .ok (.dup, 1) := by decide +kernel
theorem dX9_init_57 : decode cX9_init 57 = .ok (.invokespecial 36, 3) := by decide +kernel
theorem dX9_init_60 : decode cX9_init 60 = .ok (.putfield 37, 3) := by decide +kernel
theorem dX9_init_63 : decode cX9_init 63 = .ok (.aload_n 0, 1) := by decide +kernel
theorem dX9_init_64 : decode cX9_init 64 = .ok (.new 41, 3) := by decide +kernel
theorem dX9_init_67 : decode cX9_init 67 = .ok (.dup, 1) := by decide +kernel
theorem dX9_init_68 : decode cX9_init 68 = .ok (.invokespecial 43, 3) := by decide +kernel
theorem dX9_init_71 : decode cX9_init 71 = .ok (.putfield 44, 3) := by decide +kernel
theorem dX9_init_74 : decode cX9_init 74 = .ok (.aload_n 0, 1) := by decide +kernel
theorem dX9_init_75 : decode cX9_init 75 = .ok (.new 48, 3) := by decide +kernel
theorem dX9_init_78 : decode cX9_init 78 = .ok (.dup, 1) := by decide +kernel
theorem dX9_init_79 : decode cX9_init 79 = .ok (.invokespecial 50, 3) := by decide +kernel
theorem dX9_init_82 : decode cX9_init 82 = .ok (.putfield 51, 3) := by decide +kernel
theorem dX9_init_85 : decode cX9_init 85 = .ok (.aload_n 0, 1) := by decide +kernel
theorem dX9_init_86 : decode cX9_init 86 = .ok (.bipush 45, 2) := by decide +kernel
theorem dX9_init_88 : decode cX9_init 88 = .ok (.newarray .int, 2) := by decide +kernel
theorem dX9_init_90 : decode cX9_init 90 = .ok (.putfield 55, 3) := by decide +kernel
theorem dX9_init_93 : decode cX9_init 93 = .ok (.aload_n 0, 1) := by decide +kernel
theorem dX9_init_94 : decode cX9_init 94 = .ok (.bipush 45, 2) := by decide +kernel
theorem dX9_init_96 : decode cX9_init 96 = .ok (.newarray .int, 2) := by decide +kernel
theorem dX9_init_98 : decode cX9_init 98 = .ok (.putfield 59, 3) := by decide +kernel
theorem dX9_init_101 : decode cX9_init 101 = .ok (.aload_n 0, 1) := by decide +kernel
theorem dX9_init_102 : decode cX9_init 102 = .ok (.bipush 40, 2) := by decide +kernel
theorem dX9_init_104 : decode cX9_init 104 = .ok (.bipush 45, 2) := by decide +kernel
theorem dX9_init_106 : decode cX9_init 106 = .ok (.multianewarray 62 2, 4) := by decide +kernel
theorem dX9_init_110 : decode cX9_init 110 = .ok (.putfield 64, 3) := by decide +kernel
theorem dX9_init_113 : decode cX9_init 113 = .ok (.aload_n 0, 1) := by decide +kernel
theorem dX9_init_114 : decode cX9_init 114 = .ok (.bipush 40, 2) := by decide +kernel
theorem dX9_init_116 : decode cX9_init 116 = .ok (.newarray .int, 2) := by decide +kernel
theorem dX9_init_118 : decode cX9_init 118 = .ok (.putfield 67, 3) := by decide +kernel
theorem dX9_init_121 : decode cX9_init 121 = .ok (.aload_n 0, 1) := by decide +kernel
theorem dX9_init_122 : decode cX9_init 122 = .ok (.bipush 45, 2) := by decide +kernel
theorem dX9_init_124 : decode cX9_init 124 = .ok (.newarray .int, 2) := by decide +kernel
theorem dX9_init_126 : decode cX9_init 126 = .ok (.putfield 70, 3) := by decide +kernel
theorem dX9_init_129 : decode cX9_init 129 = .ok (.aload_n 0, 1) := by decide +kernel
theorem dX9_init_130 : decode cX9_init 130 = .ok (.bipush 46, 2) := by decide +kernel
theorem dX9_init_132 : decode cX9_init 132 = .ok (.newarray .int, 2) := by decide +kernel
theorem dX9_init_134 : decode cX9_init 134 = .ok (.putfield 73, 3) := by decide +kernel
theorem dX9_init_137 : decode cX9_init 137 = .ok (.iconst 0, 1) := by decide +kernel
theorem dX9_init_138 : decode cX9_init 138 = .ok (.istore_n 1, 1) := by decide +kernel
theorem dX9_init_139 : decode cX9_init 139 = .ok (.iload_n 1, 1) := by decide +kernel
theorem dX9_init_140 : decode cX9_init 140 = .ok (.iconst 3, 1) := by decide +kernel
theorem dX9_init_141 : decode cX9_init 141 = .ok (.if_icmp .ge 22, 3) := by decide +kernel
theorem dX9_init_144 : decode cX9_init 144 = .ok (.aload_n 0, 1) := by decide +kernel
theorem dX9_init_145 : decode cX9_init 145 = .ok (.getfield 19, 3) := by decide +kernel
theorem dX9_init_148 : decode cX9_init 148 = .ok (.iload_n 1, 1) := by decide +kernel
theorem dX9_init_149 : decode cX9_init 149 = .ok (.new 7, 3) := by decide +kernel
theorem dX9_init_152 : decode cX9_init 152 = .ok (.dup, 1) := by decide +kernel
theorem dX9_init_153 : decode cX9_init 153 = .ok (.invokespecial 9, 3) := by decide +kernel
theorem dX9_init_156 : decode cX9_init 156 = .ok (.aastore, 1) := by decide +kernel
theorem dX9_init_157 : decode cX9_init 157 = .ok (.iinc 1 1, 3) := by decide +kernel
theorem dX9_init_160 : decode cX9_init 160 = .ok (.goto (-21), 3) := by decide +kernel
theorem dX9_init_163 : decode cX9_init 163 = .ok (.return_, 1) := by decide +kernel
theorem dX9_feed_0 : decode cX9_feed 0 = .ok (.aload_n 0, 1) := by decide +kernel
theorem dX9_feed_1 : decode cX9_feed 1 = .ok (.getfield 37, 3) := by decide +kernel
theorem dX9_feed_4 : decode cX9_feed 4 = .ok (.getfield 76, 3) := by decide +kernel
theorem dX9_feed_7 : decode cX9_feed 7 = .ok (.sipush 780, 3) := by decide +kernel
theorem dX9_feed_10 : decode cX9_feed 10 = .ok (.if_icmp .le 5, 3) := by decide +kernel
theorem dX9_feed_13 : decode cX9_feed 13 = .ok (.iconst (-1), 1) := by decide +kernel
theorem dX9_feed_14 : decode cX9_feed 14 = .ok (.ireturn, 1) := by decide +kernel
theorem dX9_feed_15 : decode cX9_feed 15 = .ok (.aload_n 0, 1) := by decide +kernel
theorem dX9_feed_16 : decode cX9_feed 16 = .ok (.getfield 37, 3) := by decide +kernel
theorem dX9_feed_19 : decode cX9_feed 19 = .ok (.iload_n 1, 1) := by decide +kernel
theorem dX9_feed_20 : decode cX9_feed 20 = .ok (.invokevirtual 80, 3) := by decide +kernel
theorem dX9_feed_23 : decode cX9_feed 23 = .ok (.aload_n 0, 1) := by decide +kernel
theorem dX9_feed_24 : decode cX9_feed 24 = .ok (.getfield 37, 3) := by decide +kernel
theorem dX9_feed_27 : decode cX9_feed 27 = .ok (.iload_n 2, 1) := by decide +kernel
theorem dX9_feed_28 : decode cX9_feed 28 = .ok (.invokevirtual 80, 3) := by decide +kernel
theorem dX9_feed_31 : decode cX9_feed 31 = .ok (.aload_n 0, 1) := by decide +kernel
theorem dX9_feed_32 : decode cX9_feed 32 = .ok (.getfield 37, 3) := by decide +kernel
theorem dX9_feed_35 : decode cX9_feed 35 = .ok (.iload_n 3, 1) := by decide +kernel
theorem dX9_feed_36 : decode cX9_feed 36 = .ok (.invokevirtual 80, 3) := by decide +kernel
theorem dX9_feed_39 : decode cX9_feed 39 = .ok (.aload_n 0, 1) := by decide +kernel
theorem dX9_feed_40 : decode cX9_feed 40 = .ok (.getfield 37, 3) := by decide +kernel
theorem dX9_feed_43 : decode cX9_feed 43 = .ok (.iload 4, 2) := by decide +kernel
theorem dX9_feed_45 : decode cX9_feed 45 = .ok (.invokevirtual 80, 3) := by decide +kernel
theorem dX9_feed_48 : decode cX9_feed 48 = .ok (.aload_n 0, 1) := by decide +kernel
theorem dX9_feed_49 : decode cX9_feed 49 = .ok (.getfield 37, 3) := by decide +kernel
theorem dX9_feed_52 : decode cX9_feed 52 = .ok (.iload 5, 2) := by decide +kernel
theorem dX9_feed_54 : decode cX9_feed 54 = .ok (.invokevirtual 80, 3) := by decide +kernel
theorem dX9_feed_57 : decode cX9_feed 57 = .ok (.aload_n 0, 1) := by decide +kernel
theorem dX9_feed_58 : decode cX9_feed 58 = .ok (.getfield 37, 3) := by decide +kernel
theorem dX9_feed_61 : decode cX9_feed 61 = .ok (.getfield 76, 3) := by decide +kernel
theorem dX9_feed_64 : decode cX9_feed 64 = .ok (.ireturn, 1) := by decide +kernel
theorem dX9_end_0 : decode cX9_end 0 = .ok (.iload_n 1, 1) := by decide +kernel
theorem dX9_end_1 : decode cX9_end 1 = .ok (.ifCond .lt 14, 3) := by decide +kernel
theorem dX9_end_4 : decode cX9_end 4 = .ok (.iload_n 1, 1) := by decide +kernel
theorem dX9_end_5 : decode cX9_end 5 = .ok (.aload_n 0, 1) := by decide +kernel
theorem dX9_end_6 : decode cX9_end 6 = .ok (.getfield 37, 3) := by decide +kernel
theorem dX9_end_9 : decode cX9_end 9 = .ok (.getfield 76, 3) := by decide +kernel
theorem dX9_end_12 : decode cX9_end 12 = .ok (.if_icmp .le 5, 3) := by decide +kernel
theorem dX9_end_15 : decode cX9_end 15 = .ok (.iconst (-1), 1) := by decide +kernel
theorem dX9_end_16 : decode cX9_end 16 = .ok (.ireturn, 1) := by decide +kernel
theorem dX9_end_17 : decode cX9_end 17 = .ok (.aload_n 0, 1) := by decide +kernel
theorem dX9_end_18 : decode cX9_end 18 = .ok (.getfield 37, 3) := by decide +kernel
theorem dX9_end_21 : decode cX9_end 21 = .ok (.iload_n 1, 1) := by decide +kernel
theorem dX9_end_22 : decode cX9_end 22 = .ok (.putfield 76, 3) := by decide +kernel
theorem dX9_end_25 : decode cX9_end 25 = .ok (.iload_n 1, 1) := by decide +kernel
theorem dX9_end_26 : decode cX9_end 26 = .ok (.ireturn, 1) := by decide +kernel
theorem dX9_hall_0 : decode cX9_hall 0 = .ok (.aload_n 0, 1) := by decide +kernel
theorem dX9_hall_1 : decode cX9_hall 1 = .ok (.getfield 37, 3) := by decide +kernel
theorem dX9_hall_4 : decode cX9_hall 4 = .ok (.aload_n 0, 1) := by decide +kernel
theorem dX9_hall_5 : decode cX9_hall 5 = .ok (.getfield 16, 3) := by decide +kernel
theorem dX9_hall_8 : decode cX9_hall 8 = .ok (.invokevirtual 84, 3) := by decide +kernel
theorem dX9_hall_11 : decode cX9_hall 11 = .ok (.iconst 0, 1) := by decide +kernel
theorem dX9_hall_12 : decode cX9_hall 12 = .ok (.istore_n 1, 1) := by decide +kernel
theorem dX9_hall_13 : decode cX9_hall 13 = .ok (.iload_n 1, 1) := by decide +kernel
theorem dX9_hall_14 : decode cX9_hall 14 = .ok (.sipush 800, 3) := by decide +kernel
theorem dX9_hall_17 : decode cX9_hall 17 = .ok (.if_icmp .ge 30, 3) := by decide +kernel
theorem dX9_hall_20 : decode cX9_hall 20 = .ok (.aload_n 0, 1) := by decide +kernel
theorem dX9_hall_21 : decode cX9_hall 21 = .ok (.getfield 37, 3) := by decide +kernel
theorem dX9_hall_24 : decode cX9_hall 24 = .ok (.invokevirtual 88, 3) := by decide +kernel
theorem dX9_hall_27 : decode cX9_hall 27 = .ok (.ifCond .eq 20, 3) := by decide +kernel
theorem dX9_hall_30 : decode cX9_hall 30 = .ok (.aload_n 0, 1) := by decide +kernel
theorem dX9_hall_31 : decode cX9_hall 31 = .ok (.getfield 37, 3) := by decide +kernel
theorem dX9_hall_34 : decode cX9_hall 34 = .ok (.aload_n 0, 1) := by decide +kernel
theorem dX9_hall_35 : decode cX9_hall 35 = .ok (.getfield 16, 3) := by decide +kernel
theorem dX9_hall_38 : decode cX9_hall 38 = .ok (.invokevirtual 92, 3) := by decide +kernel
theorem dX9_hall_41 : decode cX9_hall 41 = .ok (.iinc 1 1, 3) := by decide +kernel
theorem dX9_hall_44 : decode cX9_hall 44 = .ok (.goto (-31), 3) := by decide +kernel
theorem dX9_hall_47 : decode cX9_hall 47 = .ok (.aload_n 0, 1) := by decide +kernel
theorem dX9_hall_48 : decode cX9_hall 48 = .ok (.getfield 37, 3) := by decide +kernel
theorem dX9_hall_51 : decode cX9_hall 51 = .ok (.iconst 0, 1) := by decide +kernel
theorem dX9_hall_52 : decode cX9_hall 52 = .ok (.putfield 76, 3) := by decide +kernel
theorem dX9_hall_55 : decode cX9_hall 55 = .ok (.aload_n 0, 1) := by decide +kernel
theorem dX9_hall_56 : decode cX9_hall 56 = .ok (.getfield 37, 3) := by decide +kernel
theorem dX9_hall_59 : decode cX9_hall 59 = .ok (.getfield 95, 3) := by decide +kernel
theorem dX9_hall_62 : decode cX9_hall 62 = .ok (.ifCond .eq 6, 3) := by decide +kernel
theorem dX9_hall_65 : decode cX9_hall 65 = .ok (.bipush (-4), 2) := by decide +kernel
theorem dX9_hall_67 : decode cX9_hall 67 = .ok (.ireturn, 1) := by decide +kernel
theorem dX9_hall_68 : decode cX9_hall 68 = .ok (.aload_n 0, 1) := by decide +kernel
theorem dX9_hall_69 : decode cX9_hall 69 = .ok (.getfield 30, 3) := by decide +kernel
theorem dX9_hall_72 : decode cX9_hall 72 = .ok (.aload_n 0, 1) := by decide +kernel
theorem dX9_hall_73 : decode cX9_hall 73 = .ok (.getfield 16, 3) := by decide +kernel
theorem dX9_hall_76 : decode cX9_hall 76 = .ok (.getfield 98, 3) := by decide +kernel
theorem dX9_hall_79 : decode cX9_hall 79 = .ok (.aload_n 0, 1) := by decide +kernel
theorem dX9_hall_80 : decode cX9_hall 80 = .ok (.getfield 37, 3) := by decide +kernel
theorem dX9_hall_83 : decode cX9_hall 83 = .ok (.getfield 102, 3) := by decide +kernel
theorem dX9_hall_86 : decode cX9_hall 86 = .ok (.aload_n 0, 1) := by decide +kernel
theorem dX9_hall_87 : decode cX9_hall 87 = .ok (.getfield 16, 3) := by decide +kernel
theorem dX9_hall_90 : decode cX9_hall 90 = .ok (.getfield 105, 3) := by decide +kernel
theorem dX9_hall_93 : decode cX9_hall 93 = .ok (.invokevirtual 108, 3) := by decide +kernel
theorem dX9_hall_96 : decode cX9_hall 96 = .ok (.aload_n 0, 1) := by decide +kernel
theorem dX9_hall_97 : decode cX9_hall 97 = .ok (.getfield 16, 3) := by decide +kernel
theorem dX9_hall_100 : decode cX9_hall 100 = .ok (.invokevirtual 112, 3) := by decide +kernel
theorem dX9_hall_103 : decode cX9_hall 103 = .ok (.aload_n 0, 1) := by decide +kernel
theorem dX9_hall_104 : decode cX9_hall 104 = .ok (.getfield 10, 3) := by decide +kernel
theorem dX9_hall_107 : decode cX9_hall 107 = .ok (.astore_n 1, 1) := by decide +kernel
theorem dX9_hall_108 : decode cX9_hall 108 = .ok (.aload_n 0, 1) := by decide +kernel
theorem dX9_hall_109 : decode cX9_hall 109 = .ok (.aload_n 0, 1) := by decide +kernel
theorem dX9_hall_110 : decode cX9_hall 110 = .ok (.getfield 16, 3) := by decide +kernel
theorem dX9_hall_113 : decode cX9_hall 113 = .ok (.putfield 10, 3) := by decide +kernel
theorem dX9_hall_116 : decode cX9_hall 116 = .ok (.aload_n 0, 1) := by decide +kernel
theorem dX9_hall_117 : decode cX9_hall 117 = .ok (.aload_n 1, 1) := by decide +kernel
theorem dX9_hall_118 : decode cX9_hall 118 = .ok (.putfield 16, 3) := by decide +kernel
theorem dX9_hall_121 : decode cX9_hall 121 = .ok (.aload_n 0, 1) := by decide +kernel
theorem dX9_hall_122 : decode cX9_hall 122 = .ok (.getfield 10, 3) := by decide +kernel
theorem dX9_hall_125 : decode cX9_hall 125 = .ok (.getfield 115, 3) := by decide +kernel
theorem dX9_hall_128 : decode cX9_hall 128 = .ok (.ireturn, 1) := by decide +kernel
theorem dX9_fault_0 : decode cX9_fault 0 = .ok (.iload_n 1, 1) := by decide +kernel
theorem dX9_fault_1 : decode cX9_fault 1 = .ok (.ifCond .ne 11, 3) := by decide +kernel
theorem dX9_fault_4 : decode cX9_fault 4 = .ok (.aload_n 0, 1) := by decide +kernel
theorem dX9_fault_5 : decode cX9_fault 5 = .ok (.getfield 37, 3) := by decide +kernel
theorem dX9_fault_8 : decode cX9_fault 8 = .ok (.getfield 95, 3) := by decide +kernel
theorem dX9_fault_11 : decode cX9_fault 11 = .ok (.ireturn, 1) := by decide +kernel
theorem dX9_fault_12 : decode cX9_fault 12 = .ok (.iload_n 1, 1) := by decide +kernel
theorem dX9_fault_13 : decode cX9_fault 13 = .ok (.iconst 1, 1) := by decide +kernel
theorem dX9_fault_14 : decode cX9_fault 14 = .ok (.if_icmp .ne 13, 3) := by decide +kernel
theorem dX9_fault_17 : decode cX9_fault 17 = .ok (.aload_n 0, 1) := by decide +kernel
theorem dX9_fault_18 : decode cX9_fault 18 = .ok (.getfield 37, 3) := by decide +kernel
theorem dX9_fault_21 : decode cX9_fault 21 = .ok (.getfield 118, 3) := by decide +kernel
theorem dX9_fault_24 : decode cX9_fault 24 = .ok (.goto 4, 3) := by decide +kernel
theorem dX9_fault_27 : decode cX9_fault 27 = .ok (.iconst (-1), 1) := by decide +kernel
theorem dX9_fault_28 : decode cX9_fault 28 = .ok (.ireturn, 1) := by decide +kernel
theorem dX9_column_0 : decode cX9_column 0 = .ok (.aload_n 0, 1) := by decide +kernel
theorem dX9_column_1 : decode cX9_column 1 = .ok (.iload_n 1, 1) := by decide +kernel
theorem dX9_column_2 : decode cX9_column 2 = .ok (.invokevirtual 121, 3) := by decide +kernel
theorem dX9_column_5 : decode cX9_column 5 = .ok (.ifCond .eq 12, 3) := by decide +kernel
theorem dX9_column_8 : decode cX9_column 8 = .ok (.iload_n 2, 1) := by decide +kernel
theorem dX9_column_9 : decode cX9_column 9 = .ok (.ifCond .lt 8, 3) := by decide +kernel
theorem dX9_column_12 : decode cX9_column 12 = .ok (.iload_n 2, 1) := by decide +kernel
theorem dX9_column_13 : decode cX9_column 13 = .ok (.iconst 1, 1) := by decide +kernel
theorem dX9_column_14 : decode cX9_column 14 = .ok (.if_icmp .le 6, 3) := by decide +kernel
theorem dX9_column_17 : decode cX9_column 17 = .ok (.bipush (-2), 2) := by decide +kernel
theorem dX9_column_19 : decode cX9_column 19 = .ok (.ireturn, 1) := by decide +kernel
theorem dX9_column_20 : decode cX9_column 20 = .ok (.iload_n 2, 1) := by decide +kernel
theorem dX9_column_21 : decode cX9_column 21 = .ok (.ifCond .ne 18, 3) := by decide +kernel
theorem dX9_column_24 : decode cX9_column 24 = .ok (.aload_n 0, 1) := by decide +kernel
theorem dX9_column_25 : decode cX9_column 25 = .ok (.getfield 10, 3) := by decide +kernel
theorem dX9_column_28 : decode cX9_column 28 = .ok (.getfield 98, 3) := by decide +kernel
theorem dX9_column_31 : decode cX9_column 31 = .ok (.getfield 125, 3) := by decide +kernel
theorem dX9_column_34 : decode cX9_column 34 = .ok (.iload_n 1, 1) := by decide +kernel
theorem dX9_column_35 : decode cX9_column 35 = .ok (.iaload, 1) := by decide +kernel
theorem dX9_column_36 : decode cX9_column 36 = .ok (.goto 15, 3) := by decide +kernel
theorem dX9_column_39 : decode cX9_column 39 = .ok (.aload_n 0, 1) := by decide +kernel
theorem dX9_column_40 : decode cX9_column 40 = .ok (.getfield 10, 3) := by decide +kernel
theorem dX9_column_43 : decode cX9_column 43 = .ok (.getfield 98, 3) := by decide +kernel
theorem dX9_column_46 : decode cX9_column 46 = .ok (.getfield 130, 3) := by decide +kernel
theorem dX9_column_49 : decode cX9_column 49 = .ok (.iload_n 1, 1) := by decide +kernel
theorem dX9_column_50 : decode cX9_column 50 = .ok (.iaload, 1) := by decide +kernel
theorem dX9_column_51 : decode cX9_column 51 = .ok (.ireturn, 1) := by decide +kernel
theorem dX9_numbers_0 : decode cX9_numbers 0 = .ok (.aload_n 0, 1) := by decide +kernel
theorem dX9_numbers_1 : decode cX9_numbers 1 = .ok (.invokevirtual 133, 3) := by decide +kernel
theorem dX9_numbers_4 : decode cX9_numbers 4 = .ok (.ifCond .eq 16, 3) := by decide +kernel
theorem dX9_numbers_7 : decode cX9_numbers 7 = .ok (.aload_n 0, 1) := by decide +kernel
theorem dX9_numbers_8 : decode cX9_numbers 8 = .ok (.getfield 10, 3) := by decide +kernel
theorem dX9_numbers_11 : decode cX9_numbers 11 = .ok (.getfield 98, 3) := by decide +kernel
theorem dX9_numbers_14 : decode cX9_numbers 14 = .ok (.getfield 136, 3) := by decide +kernel
theorem dX9_numbers_17 : decode cX9_numbers 17 = .ok (.goto 5, 3) := by decide +kernel
theorem dX9_numbers_20 : decode cX9_numbers 20 = .ok (.bipush (-2), 2) := by decide +kernel
theorem dX9_numbers_22 : decode cX9_numbers 22 = .ok (.ireturn, 1) := by decide +kernel
theorem dX9_plans_0 : decode cX9_plans 0 = .ok (.aload_n 0, 1) := by decide +kernel
theorem dX9_plans_1 : decode cX9_plans 1 = .ok (.invokevirtual 133, 3) := by decide +kernel
theorem dX9_plans_4 : decode cX9_plans 4 = .ok (.ifCond .eq 16, 3) := by decide +kernel
theorem dX9_plans_7 : decode cX9_plans 7 = .ok (.aload_n 0, 1) := by decide +kernel
theorem dX9_plans_8 : decode cX9_plans 8 = .ok (.getfield 10, 3) := by decide +kernel
theorem dX9_plans_11 : decode cX9_plans 11 = .ok (.getfield 98, 3) := by decide +kernel
theorem dX9_plans_14 : decode cX9_plans 14 = .ok (.getfield 139, 3) := by decide +kernel
theorem dX9_plans_17 : decode cX9_plans 17 = .ok (.goto 5, 3) := by decide +kernel
theorem dX9_plans_20 : decode cX9_plans 20 = .ok (.bipush (-2), 2) := by decide +kernel
theorem dX9_plans_22 : decode cX9_plans 22 = .ok (.ireturn, 1) := by decide +kernel
theorem dX9_plan_0 : decode cX9_plan 0 = .ok (.aload_n 0, 1) := by decide +kernel
theorem dX9_plan_1 : decode cX9_plan 1 = .ok (.iload_n 2, 1) := by decide +kernel
theorem dX9_plan_2 : decode cX9_plan 2 = .ok (.invokevirtual 142, 3) := by decide +kernel
theorem dX9_plan_5 : decode cX9_plan 5 = .ok (.ifCond .eq 11, 3) := by decide +kernel
theorem dX9_plan_8 : decode cX9_plan 8 = .ok (.aload_n 0, 1) := by decide +kernel
theorem dX9_plan_9 : decode cX9_plan 9 = .ok (.iload_n 3, 1) := by decide +kernel
theorem dX9_plan_10 : decode cX9_plan 10 = .ok (.invokevirtual 121, 3) := by decide +kernel
theorem dX9_plan_13 : decode cX9_plan 13 = .ok (.ifCond .ne 6, 3) := by decide +kernel
theorem dX9_plan_16 : decode cX9_plan 16 = .ok (.bipush (-2), 2) := by decide +kernel
theorem dX9_plan_18 : decode cX9_plan 18 = .ok (.ireturn, 1) := by decide +kernel
theorem dX9_plan_19 : decode cX9_plan 19 = .ok (.iload_n 1, 1) := by decide +kernel
theorem dX9_plan_20 : decode cX9_plan 20 = .ok (.ifCond .lt 17, 3) := by decide +kernel
theorem dX9_plan_23 : decode cX9_plan 23 = .ok (.iload_n 1, 1) := by decide +kernel
theorem dX9_plan_24 : decode cX9_plan 24 = .ok (.aload_n 0, 1) := by decide +kernel
theorem dX9_plan_25 : decode cX9_plan 25 = .ok (.getfield 10, 3) := by decide +kernel
theorem dX9_plan_28 : decode cX9_plan 28 = .ok (.getfield 98, 3) := by decide +kernel
theorem dX9_plan_31 : decode cX9_plan 31 = .ok (.getfield 139, 3) := by decide +kernel
theorem dX9_plan_34 : decode cX9_plan 34 = .ok (.if_icmp .lt 5, 3) := by decide +kernel
theorem dX9_plan_37 : decode cX9_plan 37 = .ok (.iconst (-1), 1) := by decide +kernel
theorem dX9_plan_38 : decode cX9_plan 38 = .ok (.ireturn, 1) := by decide +kernel
theorem dX9_plan_39 : decode cX9_plan 39 = .ok (.aload_n 0, 1) := by decide +kernel
theorem dX9_plan_40 : decode cX9_plan 40 = .ok (.getfield 30, 3) := by decide +kernel
theorem dX9_plan_43 : decode cX9_plan 43 = .ok (.aload_n 0, 1) := by decide +kernel
theorem dX9_plan_44 : decode cX9_plan 44 = .ok (.getfield 10, 3) := by decide +kernel
theorem dX9_plan_47 : decode cX9_plan 47 = .ok (.getfield 98, 3) := by decide +kernel
theorem dX9_plan_50 : decode cX9_plan 50 = .ok (.iload_n 1, 1) := by decide +kernel
theorem dX9_plan_51 : decode cX9_plan 51 = .ok (.iload_n 2, 1) := by decide +kernel
theorem dX9_plan_52 : decode cX9_plan 52 = .ok (.iload_n 3, 1) := by decide +kernel
theorem dX9_plan_53 : decode cX9_plan 53 = .ok (.invokevirtual 145, 3) := by decide +kernel
theorem dX9_plan_56 : decode cX9_plan 56 = .ok (.ireturn, 1) := by decide +kernel
theorem dX9_layouts_0 : decode cX9_layouts 0 = .ok (.aload_n 0, 1) := by decide +kernel
theorem dX9_layouts_1 : decode cX9_layouts 1 = .ok (.invokevirtual 133, 3) := by decide +kernel
theorem dX9_layouts_4 : decode cX9_layouts 4 = .ok (.ifCond .eq 14, 3) := by decide +kernel
theorem dX9_layouts_7 : decode cX9_layouts 7 = .ok (.aload_n 0, 1) := by decide +kernel
theorem dX9_layouts_8 : decode cX9_layouts 8 = .ok (.getfield 44, 3) := by decide +kernel
theorem dX9_layouts_11 : decode cX9_layouts 11 = .ok (.iload_n 1, 1) := by decide +kernel
theorem dX9_layouts_12 : decode cX9_layouts 12 = .ok (.invokevirtual 149, 3) := by decide +kernel
theorem dX9_layouts_15 : decode cX9_layouts 15 = .ok (.ifCond .ne 6, 3) := by decide +kernel
theorem dX9_layouts_18 : decode cX9_layouts 18 = .ok (.bipush (-2), 2) := by decide +kernel
theorem dX9_layouts_20 : decode cX9_layouts 20 = .ok (.ireturn, 1) := by decide +kernel
theorem dX9_layouts_21 : decode cX9_layouts 21 = .ok (.aload_n 0, 1) := by decide +kernel
theorem dX9_layouts_22 : decode cX9_layouts 22 = .ok (.getfield 44, 3) := by decide +kernel
theorem dX9_layouts_25 : decode cX9_layouts 25 = .ok (.iload_n 1, 1) := by decide +kernel
theorem dX9_layouts_26 : decode cX9_layouts 26 = .ok (.invokevirtual 152, 3) := by decide +kernel
theorem dX9_layouts_29 : decode cX9_layouts 29 = .ok (.ifCond .ne 6, 3) := by decide +kernel
theorem dX9_layouts_32 : decode cX9_layouts 32 = .ok (.bipush (-6), 2) := by decide +kernel
theorem dX9_layouts_34 : decode cX9_layouts 34 = .ok (.ireturn, 1) := by decide +kernel
theorem dX9_layouts_35 : decode cX9_layouts 35 = .ok (.aload_n 0, 1) := by decide +kernel
theorem dX9_layouts_36 : decode cX9_layouts 36 = .ok (.getfield 10, 3) := by decide +kernel
theorem dX9_layouts_39 : decode cX9_layouts 39 = .ok (.getfield 98, 3) := by decide +kernel
theorem dX9_layouts_42 : decode cX9_layouts 42 = .ok (.astore_n 2, 1) := by decide +kernel
theorem dX9_layouts_43 : decode cX9_layouts 43 = .ok (.aload_n 0, 1) := by decide +kernel
theorem dX9_layouts_44 : decode cX9_layouts 44 = .ok (.getfield 44, 3) := by decide +kernel
theorem dX9_layouts_47 : decode cX9_layouts 47 = .ok (.iload_n 1, 1) := by decide +kernel
theorem dX9_layouts_48 : decode cX9_layouts 48 = .ok (.invokevirtual 155, 3) := by decide +kernel
theorem dX9_layouts_51 : decode cX9_layouts 51 = .ok (.aload_n 2, 1) := by decide +kernel
theorem dX9_layouts_52 : decode cX9_layouts 52 = .ok (.getfield 159, 3) := by decide +kernel
theorem dX9_layouts_55 : decode cX9_layouts 55 = .ok (.if_icmp .eq 6, 3) := by decide +kernel
theorem dX9_layouts_58 : decode cX9_layouts 58 = .ok (.bipush (-7), 2) := by decide +kernel
theorem dX9_layouts_60 : decode cX9_layouts 60 = .ok (.ireturn, 1) := by decide +kernel
theorem dX9_layouts_61 : decode cX9_layouts 61 = .ok (.iconst 0, 1) := by decide +kernel
theorem dX9_layouts_62 : decode cX9_layouts 62 = .ok (.istore_n 3, 1) := by decide +kernel
theorem dX9_layouts_63 : decode cX9_layouts 63 = .ok (.iconst 0, 1) := by decide +kernel
theorem dX9_layouts_64 : decode cX9_layouts 64 = .ok (.istore 4, 2) := by decide +kernel
theorem dX9_layouts_66 : decode cX9_layouts 66 = .ok (.iload 4, 2) := by decide +kernel
theorem dX9_layouts_68 : decode cX9_layouts 68 = .ok (.aload_n 2, 1) := by decide +kernel
theorem dX9_layouts_69 : decode cX9_layouts 69 = .ok (.getfield 159, 3) := by decide +kernel
theorem dX9_layouts_72 : decode cX9_layouts 72 = .ok (.if_icmp .ge 52, 3) := by decide +kernel
theorem dX9_layouts_75 : decode cX9_layouts 75 = .ok (.aload_n 0, 1) := by decide +kernel
theorem dX9_layouts_76 : decode cX9_layouts 76 = .ok (.getfield 44, 3) := by decide +kernel
theorem dX9_layouts_79 : decode cX9_layouts 79 = .ok (.iload_n 1, 1) := by decide +kernel
theorem dX9_layouts_80 : decode cX9_layouts 80 = .ok (.iload 4, 2) := by decide +kernel
theorem dX9_layouts_82 : decode cX9_layouts 82 = .ok (.invokevirtual 162, 3) := by decide +kernel
theorem dX9_layouts_85 : decode cX9_layouts 85 = .ok (.lstore 5, 2) := by decide +kernel
theorem dX9_layouts_87 : decode cX9_layouts 87 = .ok (.lload 5, 2) := by decide +kernel
theorem dX9_layouts_89 : decode cX9_layouts 89 = .ok (.lconst 0, 1) := by decide +kernel
theorem dX9_layouts_90 : decode cX9_layouts 90 = .ok (.lcmp, 1) := by decide +kernel
theorem dX9_layouts_91 : decode cX9_layouts 91 = .ok (.ifCond .lt 14, 3) := by decide +kernel
theorem dX9_layouts_94 : decode cX9_layouts 94 = .ok (.lload 5, 2) := by decide +kernel
theorem dX9_layouts_96 : decode cX9_layouts 96 = .ok (.aload_n 2, 1) := by decide +kernel
theorem dX9_layouts_97 : decode cX9_layouts 97 = .ok (.getfield 166, 3) := by decide +kernel
theorem dX9_layouts_100 : decode cX9_layouts 100 = .ok (.i2l, 1) := by decide +kernel
theorem dX9_layouts_101 : decode cX9_layouts 101 = .ok (.lcmp, 1) := by decide +kernel
theorem dX9_layouts_102 : decode cX9_layouts 102 = .ok (.ifCond .le 5, 3) := by decide +kernel
theorem dX9_layouts_105 : decode cX9_layouts 105 = .ok (.iconst 0, 1) := by decide +kernel
theorem dX9_layouts_106 : decode cX9_layouts 106 = .ok (.ireturn, 1) := by decide +kernel
theorem dX9_layouts_107 : decode cX9_layouts 107 = .ok (.iload_n 3, 1) := by decide +kernel
theorem dX9_layouts_108 : decode cX9_layouts 108 = .ok (.iload 4, 2) := by decide +kernel
theorem dX9_layouts_110 : decode cX9_layouts 110 = .ok (.lload 5, 2) := by decide +kernel
theorem dX9_layouts_112 : decode cX9_layouts 112 = .ok (.l2i, 1) := by decide +kernel
theorem dX9_layouts_113 : decode cX9_layouts 113 = .ok (.invokestatic 169, 3) := by decide +kernel
theorem dX9_layouts_116 : decode cX9_layouts 116 = .ok (.iadd, 1) := by decide +kernel
theorem dX9_layouts_117 : decode cX9_layouts 117 = .ok (.istore_n 3, 1) := by decide +kernel
theorem dX9_layouts_118 : decode cX9_layouts 118 = .ok (.iinc 4 1, 3) := by decide +kernel
theorem dX9_layouts_121 : decode cX9_layouts 121 = .ok (.goto (-55), 3) := by decide +kernel
theorem dX9_layouts_124 : decode cX9_layouts 124 = .ok (.aload_n 2, 1) := by decide +kernel
theorem dX9_layouts_125 : decode cX9_layouts 125 = .ok (.getfield 175, 3) := by decide +kernel
theorem dX9_layouts_128 : decode cX9_layouts 128 = .ok (.aload_n 2, 1) := by decide +kernel
theorem dX9_layouts_129 : decode cX9_layouts 129 = .ok (.getfield 166, 3) := by decide +kernel
theorem dX9_layouts_132 : decode cX9_layouts 132 = .ok (.iload_n 3, 1) := by decide +kernel
theorem dX9_layouts_133 : decode cX9_layouts 133 = .ok (.invokestatic 179, 3) := by decide +kernel
theorem dX9_layouts_136 : decode cX9_layouts 136 = .ok (.ireturn, 1) := by decide +kernel
theorem dX9_made_0 : decode cX9_made 0 = .ok (.aload_n 0, 1) := by decide +kernel
theorem dX9_made_1 : decode cX9_made 1 = .ok (.iload_n 1, 1) := by decide +kernel
theorem dX9_made_2 : decode cX9_made 2 = .ok (.invokevirtual 183, 3) := by decide +kernel
theorem dX9_made_5 : decode cX9_made 5 = .ok (.ifCond .eq 21, 3) := by decide +kernel
theorem dX9_made_8 : decode cX9_made 8 = .ok (.aload_n 0, 1) := by decide +kernel
theorem dX9_made_9 : decode cX9_made 9 = .ok (.getfield 30, 3) := by decide +kernel
theorem dX9_made_12 : decode cX9_made 12 = .ok (.aload_n 0, 1) := by decide +kernel
theorem dX9_made_13 : decode cX9_made 13 = .ok (.getfield 10, 3) := by decide +kernel
theorem dX9_made_16 : decode cX9_made 16 = .ok (.getfield 98, 3) := by decide +kernel
theorem dX9_made_19 : decode cX9_made 19 = .ok (.iload_n 1, 1) := by decide +kernel
theorem dX9_made_20 : decode cX9_made 20 = .ok (.invokevirtual 186, 3) := by decide +kernel
theorem dX9_made_23 : decode cX9_made 23 = .ok (.goto 5, 3) := by decide +kernel
theorem dX9_made_26 : decode cX9_made 26 = .ok (.bipush (-2), 2) := by decide +kernel
theorem dX9_made_28 : decode cX9_made 28 = .ok (.ireturn, 1) := by decide +kernel
theorem dX9_cell_0 : decode cX9_cell 0 = .ok (.aload_n 0, 1) := by decide +kernel
theorem dX9_cell_1 : decode cX9_cell 1 = .ok (.iload_n 1, 1) := by decide +kernel
theorem dX9_cell_2 : decode cX9_cell 2 = .ok (.invokevirtual 183, 3) := by decide +kernel
theorem dX9_cell_5 : decode cX9_cell 5 = .ok (.ifCond .eq 38, 3) := by decide +kernel
theorem dX9_cell_8 : decode cX9_cell 8 = .ok (.aload_n 0, 1) := by decide +kernel
theorem dX9_cell_9 : decode cX9_cell 9 = .ok (.iload_n 2, 1) := by decide +kernel
theorem dX9_cell_10 : decode cX9_cell 10 = .ok (.invokevirtual 142, 3) := by decide +kernel
theorem dX9_cell_13 : decode cX9_cell 13 = .ok (.ifCond .eq 30, 3) := by decide +kernel
theorem dX9_cell_16 : decode cX9_cell 16 = .ok (.iload_n 3, 1) := by decide +kernel
theorem dX9_cell_17 : decode cX9_cell 17 = .ok (.ifCond .lt 26, 3) := by decide +kernel
theorem dX9_cell_20 : decode cX9_cell 20 = .ok (.iload_n 3, 1) := by decide +kernel
theorem dX9_cell_21 : decode cX9_cell 21 = .ok (.aload_n 0, 1) := by decide +kernel
theorem dX9_cell_22 : decode cX9_cell 22 = .ok (.getfield 10, 3) := by decide +kernel
theorem dX9_cell_25 : decode cX9_cell 25 = .ok (.getfield 98, 3) := by decide +kernel
theorem dX9_cell_28 : decode cX9_cell 28 = .ok (.getfield 166, 3) := by decide +kernel
theorem dX9_cell_31 : decode cX9_cell 31 = .ok (.if_icmp .ge 12, 3) := by decide +kernel
theorem dX9_cell_34 : decode cX9_cell 34 = .ok (.aload_n 0, 1) := by decide +kernel
theorem dX9_cell_35 : decode cX9_cell 35 = .ok (.iload 4, 2) := by decide +kernel
theorem dX9_cell_37 : decode cX9_cell 37 = .ok (.invokevirtual 121, 3) := by decide +kernel
theorem dX9_cell_40 : decode cX9_cell 40 = .ok (.ifCond .ne 6, 3) := by decide +kernel
theorem dX9_cell_43 : decode cX9_cell 43 = .ok (.bipush (-2), 2) := by decide +kernel
theorem dX9_cell_45 : decode cX9_cell 45 = .ok (.ireturn, 1) := by decide +kernel
theorem dX9_cell_46 : decode cX9_cell 46 = .ok (.aload_n 0, 1) := by decide +kernel
theorem dX9_cell_47 : decode cX9_cell 47 = .ok (.getfield 30, 3) := by decide +kernel
theorem dX9_cell_50 : decode cX9_cell 50 = .ok (.aload_n 0, 1) := by decide +kernel
theorem dX9_cell_51 : decode cX9_cell 51 = .ok (.getfield 10, 3) := by decide +kernel
theorem dX9_cell_54 : decode cX9_cell 54 = .ok (.getfield 98, 3) := by decide +kernel
theorem dX9_cell_57 : decode cX9_cell 57 = .ok (.iload_n 1, 1) := by decide +kernel
theorem dX9_cell_58 : decode cX9_cell 58 = .ok (.aload_n 0, 1) := by decide +kernel
theorem dX9_cell_59 : decode cX9_cell 59 = .ok (.getfield 55, 3) := by decide +kernel
theorem dX9_cell_62 : decode cX9_cell 62 = .ok (.invokevirtual 190, 3) := by decide +kernel
theorem dX9_cell_65 : decode cX9_cell 65 = .ok (.aload_n 0, 1) := by decide +kernel
theorem dX9_cell_66 : decode cX9_cell 66 = .ok (.getfield 55, 3) := by decide +kernel
theorem dX9_cell_69 : decode cX9_cell 69 = .ok (.aload_n 0, 1) := by decide +kernel
theorem dX9_cell_70 : decode cX9_cell 70 = .ok (.getfield 10, 3) := by decide +kernel
theorem dX9_cell_73 : decode cX9_cell 73 = .ok (.getfield 98, 3) := by decide +kernel
theorem dX9_cell_76 : decode cX9_cell 76 = .ok (.iload_n 2, 1) := by decide +kernel
theorem dX9_cell_77 : decode cX9_cell 77 = .ok (.iload_n 3, 1) := by decide +kernel
theorem dX9_cell_78 : decode cX9_cell 78 = .ok (.iload 4, 2) := by decide +kernel
theorem dX9_cell_80 : decode cX9_cell 80 = .ok (.invokevirtual 193, 3) := by decide +kernel
theorem dX9_cell_83 : decode cX9_cell 83 = .ok (.iaload, 1) := by decide +kernel
theorem dX9_cell_84 : decode cX9_cell 84 = .ok (.ireturn, 1) := by decide +kernel
theorem dX9_where_0 : decode cX9_where 0 = .ok (.aload_n 0, 1) := by decide +kernel
theorem dX9_where_1 : decode cX9_where 1 = .ok (.iload_n 1, 1) := by decide +kernel
theorem dX9_where_2 : decode cX9_where 2 = .ok (.invokevirtual 183, 3) := by decide +kernel
theorem dX9_where_5 : decode cX9_where 5 = .ok (.ifCond .eq 11, 3) := by decide +kernel
theorem dX9_where_8 : decode cX9_where 8 = .ok (.aload_n 0, 1) := by decide +kernel
theorem dX9_where_9 : decode cX9_where 9 = .ok (.iload_n 2, 1) := by decide +kernel
theorem dX9_where_10 : decode cX9_where 10 = .ok (.invokevirtual 197, 3) := by decide +kernel
theorem dX9_where_13 : decode cX9_where 13 = .ok (.ifCond .ne 6, 3) := by decide +kernel
theorem dX9_where_16 : decode cX9_where 16 = .ok (.bipush (-2), 2) := by decide +kernel
theorem dX9_where_18 : decode cX9_where 18 = .ok (.ireturn, 1) := by decide +kernel
theorem dX9_where_19 : decode cX9_where 19 = .ok (.aload_n 0, 1) := by decide +kernel
theorem dX9_where_20 : decode cX9_where 20 = .ok (.getfield 30, 3) := by decide +kernel
theorem dX9_where_23 : decode cX9_where 23 = .ok (.aload_n 0, 1) := by decide +kernel
theorem dX9_where_24 : decode cX9_where 24 = .ok (.getfield 10, 3) := by decide +kernel
theorem dX9_where_27 : decode cX9_where 27 = .ok (.getfield 98, 3) := by decide +kernel
theorem dX9_where_30 : decode cX9_where 30 = .ok (.iload_n 1, 1) := by decide +kernel
theorem dX9_where_31 : decode cX9_where 31 = .ok (.aload_n 0, 1) := by decide +kernel
theorem dX9_where_32 : decode cX9_where 32 = .ok (.getfield 55, 3) := by decide +kernel
theorem dX9_where_35 : decode cX9_where 35 = .ok (.invokevirtual 190, 3) := by decide +kernel
theorem dX9_where_38 : decode cX9_where 38 = .ok (.iconst 0, 1) := by decide +kernel
theorem dX9_where_39 : decode cX9_where 39 = .ok (.istore_n 3, 1) := by decide +kernel
theorem dX9_where_40 : decode cX9_where 40 = .ok (.iload_n 3, 1) := by decide +kernel
theorem dX9_where_41 : decode cX9_where 41 = .ok (.aload_n 0, 1) := by decide +kernel
theorem dX9_where_42 : decode cX9_where 42 = .ok (.getfield 10, 3) := by decide +kernel
theorem dX9_where_45 : decode cX9_where 45 = .ok (.getfield 98, 3) := by decide +kernel
theorem dX9_where_48 : decode cX9_where 48 = .ok (.getfield 200, 3) := by decide +kernel
theorem dX9_where_51 : decode cX9_where 51 = .ok (.if_icmp .ge 95, 3) := by decide +kernel
theorem dX9_where_54 : decode cX9_where 54 = .ok (.iconst 0, 1) := by decide +kernel
theorem dX9_where_55 : decode cX9_where 55 = .ok (.istore 4, 2) := by decide +kernel
theorem dX9_where_57 : decode cX9_where 57 = .ok (.iload 4, 2) := by decide +kernel
theorem dX9_where_59 : decode cX9_where 59 = .ok (.aload_n 0, 1) := by decide +kernel
theorem dX9_where_60 : decode cX9_where 60 = .ok (.getfield 10, 3) := by decide +kernel
theorem dX9_where_63 : decode cX9_where 63 = .ok (.getfield 98, 3) := by decide +kernel
theorem dX9_where_66 : decode cX9_where 66 = .ok (.getfield 166, 3) := by decide +kernel
theorem dX9_where_69 : decode cX9_where 69 = .ok (.if_icmp .ge 71, 3) := by decide +kernel
theorem dX9_where_72 : decode cX9_where 72 = .ok (.iconst 0, 1) := by decide +kernel
theorem dX9_where_73 : decode cX9_where 73 = .ok (.istore 5, 2) := by decide +kernel
theorem dX9_where_75 : decode cX9_where 75 = .ok (.iload 5, 2) := by decide +kernel
theorem dX9_where_77 : decode cX9_where 77 = .ok (.aload_n 0, 1) := by decide +kernel
theorem dX9_where_78 : decode cX9_where 78 = .ok (.getfield 10, 3) := by decide +kernel
theorem dX9_where_81 : decode cX9_where 81 = .ok (.getfield 98, 3) := by decide +kernel
theorem dX9_where_84 : decode cX9_where 84 = .ok (.getfield 159, 3) := by decide +kernel
theorem dX9_where_87 : decode cX9_where 87 = .ok (.if_icmp .ge 47, 3) := by decide +kernel
theorem dX9_where_90 : decode cX9_where 90 = .ok (.aload_n 0, 1) := by decide +kernel
theorem dX9_where_91 : decode cX9_where 91 = .ok (.getfield 55, 3) := by decide +kernel
theorem dX9_where_94 : decode cX9_where 94 = .ok (.aload_n 0, 1) := by decide +kernel
theorem dX9_where_95 : decode cX9_where 95 = .ok (.getfield 10, 3) := by decide +kernel
theorem dX9_where_98 : decode cX9_where 98 = .ok (.getfield 98, 3) := by decide +kernel
theorem dX9_where_101 : decode cX9_where 101 = .ok (.iload_n 3, 1) := by decide +kernel
theorem dX9_where_102 : decode cX9_where 102 = .ok (.iload 4, 2) := by decide +kernel
theorem dX9_where_104 : decode cX9_where 104 = .ok (.iload 5, 2) := by decide +kernel
theorem dX9_where_106 : decode cX9_where 106 = .ok (.invokevirtual 193, 3) := by decide +kernel
theorem dX9_where_109 : decode cX9_where 109 = .ok (.iaload, 1) := by decide +kernel
theorem dX9_where_110 : decode cX9_where 110 = .ok (.iload_n 2, 1) := by decide +kernel
theorem dX9_where_111 : decode cX9_where 111 = .ok (.if_icmp .ne 17, 3) := by decide +kernel
theorem dX9_where_114 : decode cX9_where 114 = .ok (.bipush 100, 2) := by decide +kernel
theorem dX9_where_116 : decode cX9_where 116 = .ok (.iload_n 3, 1) := by decide +kernel
theorem dX9_where_117 : decode cX9_where 117 = .ok (.imul, 1) := by decide +kernel
theorem dX9_where_118 : decode cX9_where 118 = .ok (.bipush 10, 2) := by decide +kernel
theorem dX9_where_120 : decode cX9_where 120 = .ok (.iload 4, 2) := by decide +kernel
theorem dX9_where_122 : decode cX9_where 122 = .ok (.imul, 1) := by decide +kernel
theorem dX9_where_123 : decode cX9_where 123 = .ok (.iadd, 1) := by decide +kernel
theorem dX9_where_124 : decode cX9_where 124 = .ok (.iload 5, 2) := by decide +kernel
theorem dX9_where_126 : decode cX9_where 126 = .ok (.iadd, 1) := by decide +kernel
theorem dX9_where_127 : decode cX9_where 127 = .ok (.ireturn, 1) := by decide +kernel
theorem dX9_where_128 : decode cX9_where 128 = .ok (.iinc 5 1, 3) := by decide +kernel
theorem dX9_where_131 : decode cX9_where 131 = .ok (.goto (-56), 3) := by decide +kernel
theorem dX9_where_134 : decode cX9_where 134 = .ok (.iinc 4 1, 3) := by decide +kernel
theorem dX9_where_137 : decode cX9_where 137 = .ok (.goto (-80), 3) := by decide +kernel
theorem dX9_where_140 : decode cX9_where 140 = .ok (.iinc 3 1, 3) := by decide +kernel
theorem dX9_where_143 : decode cX9_where 143 = .ok (.goto (-103), 3) := by decide +kernel
theorem dX9_where_146 : decode cX9_where 146 = .ok (.bipush (-2), 2) := by decide +kernel
theorem dX9_where_148 : decode cX9_where 148 = .ok (.ireturn, 1) := by decide +kernel
theorem dX9_same_0 : decode cX9_same 0 = .ok (.aload_n 0, 1) := by decide +kernel
theorem dX9_same_1 : decode cX9_same 1 = .ok (.iload_n 1, 1) := by decide +kernel
theorem dX9_same_2 : decode cX9_same 2 = .ok (.invokevirtual 183, 3) := by decide +kernel
theorem dX9_same_5 : decode cX9_same 5 = .ok (.ifCond .eq 11, 3) := by decide +kernel
theorem dX9_same_8 : decode cX9_same 8 = .ok (.aload_n 0, 1) := by decide +kernel
theorem dX9_same_9 : decode cX9_same 9 = .ok (.iload_n 2, 1) := by decide +kernel
theorem dX9_same_10 : decode cX9_same 10 = .ok (.invokevirtual 183, 3) := by decide +kernel
theorem dX9_same_13 : decode cX9_same 13 = .ok (.ifCond .ne 6, 3) := by decide +kernel
theorem dX9_same_16 : decode cX9_same 16 = .ok (.bipush (-2), 2) := by decide +kernel
theorem dX9_same_18 : decode cX9_same 18 = .ok (.ireturn, 1) := by decide +kernel
theorem dX9_same_19 : decode cX9_same 19 = .ok (.aload_n 0, 1) := by decide +kernel
theorem dX9_same_20 : decode cX9_same 20 = .ok (.getfield 30, 3) := by decide +kernel
theorem dX9_same_23 : decode cX9_same 23 = .ok (.aload_n 0, 1) := by decide +kernel
theorem dX9_same_24 : decode cX9_same 24 = .ok (.getfield 10, 3) := by decide +kernel
theorem dX9_same_27 : decode cX9_same 27 = .ok (.getfield 98, 3) := by decide +kernel
theorem dX9_same_30 : decode cX9_same 30 = .ok (.iload_n 1, 1) := by decide +kernel
theorem dX9_same_31 : decode cX9_same 31 = .ok (.aload_n 0, 1) := by decide +kernel
theorem dX9_same_32 : decode cX9_same 32 = .ok (.getfield 55, 3) := by decide +kernel
theorem dX9_same_35 : decode cX9_same 35 = .ok (.invokevirtual 190, 3) := by decide +kernel
theorem dX9_same_38 : decode cX9_same 38 = .ok (.aload_n 0, 1) := by decide +kernel
theorem dX9_same_39 : decode cX9_same 39 = .ok (.getfield 30, 3) := by decide +kernel
theorem dX9_same_42 : decode cX9_same 42 = .ok (.aload_n 0, 1) := by decide +kernel
theorem dX9_same_43 : decode cX9_same 43 = .ok (.getfield 10, 3) := by decide +kernel
theorem dX9_same_46 : decode cX9_same 46 = .ok (.getfield 98, 3) := by decide +kernel
theorem dX9_same_49 : decode cX9_same 49 = .ok (.iload_n 2, 1) := by decide +kernel
theorem dX9_same_50 : decode cX9_same 50 = .ok (.aload_n 0, 1) := by decide +kernel
theorem dX9_same_51 : decode cX9_same 51 = .ok (.getfield 59, 3) := by decide +kernel
theorem dX9_same_54 : decode cX9_same 54 = .ok (.invokevirtual 190, 3) := by decide +kernel
theorem dX9_same_57 : decode cX9_same 57 = .ok (.aload_n 0, 1) := by decide +kernel
theorem dX9_same_58 : decode cX9_same 58 = .ok (.getfield 55, 3) := by decide +kernel
theorem dX9_same_61 : decode cX9_same 61 = .ok (.aload_n 0, 1) := by decide +kernel
theorem dX9_same_62 : decode cX9_same 62 = .ok (.getfield 59, 3) := by decide +kernel
theorem dX9_same_65 : decode cX9_same 65 = .ok (.invokestatic 203, 3) := by decide +kernel
theorem dX9_same_68 : decode cX9_same 68 = .ok (.ifCond .eq 7, 3) := by decide +kernel
theorem dX9_same_71 : decode cX9_same 71 = .ok (.iconst 1, 1) := by decide +kernel
theorem dX9_same_72 : decode cX9_same 72 = .ok (.goto 4, 3) := by decide +kernel
theorem dX9_same_75 : decode cX9_same 75 = .ok (.iconst 0, 1) := by decide +kernel
theorem dX9_same_76 : decode cX9_same 76 = .ok (.ireturn, 1) := by decide +kernel
theorem dX9_alike_0 : decode cX9_alike 0 = .ok (.aload_n 0, 1) := by decide +kernel
theorem dX9_alike_1 : decode cX9_alike 1 = .ok (.iload_n 1, 1) := by decide +kernel
theorem dX9_alike_2 : decode cX9_alike 2 = .ok (.invokevirtual 183, 3) := by decide +kernel
theorem dX9_alike_5 : decode cX9_alike 5 = .ok (.ifCond .eq 28, 3) := by decide +kernel
theorem dX9_alike_8 : decode cX9_alike 8 = .ok (.aload_n 0, 1) := by decide +kernel
theorem dX9_alike_9 : decode cX9_alike 9 = .ok (.iload_n 2, 1) := by decide +kernel
theorem dX9_alike_10 : decode cX9_alike 10 = .ok (.invokevirtual 142, 3) := by decide +kernel
theorem dX9_alike_13 : decode cX9_alike 13 = .ok (.ifCond .eq 20, 3) := by decide +kernel
theorem dX9_alike_16 : decode cX9_alike 16 = .ok (.aload_n 0, 1) := by decide +kernel
theorem dX9_alike_17 : decode cX9_alike 17 = .ok (.iload_n 3, 1) := by decide +kernel
theorem dX9_alike_18 : decode cX9_alike 18 = .ok (.invokevirtual 183, 3) := by decide +kernel
theorem dX9_alike_21 : decode cX9_alike 21 = .ok (.ifCond .eq 12, 3) := by decide +kernel
theorem dX9_alike_24 : decode cX9_alike 24 = .ok (.aload_n 0, 1) := by decide +kernel
theorem dX9_alike_25 : decode cX9_alike 25 = .ok (.iload 4, 2) := by decide +kernel
theorem dX9_alike_27 : decode cX9_alike 27 = .ok (.invokevirtual 142, 3) := by decide +kernel
theorem dX9_alike_30 : decode cX9_alike 30 = .ok (.ifCond .ne 6, 3) := by decide +kernel
theorem dX9_alike_33 : decode cX9_alike 33 = .ok (.bipush (-2), 2) := by decide +kernel
theorem dX9_alike_35 : decode cX9_alike 35 = .ok (.ireturn, 1) := by decide +kernel
theorem dX9_alike_36 : decode cX9_alike 36 = .ok (.aload_n 0, 1) := by decide +kernel
theorem dX9_alike_37 : decode cX9_alike 37 = .ok (.getfield 30, 3) := by decide +kernel
theorem dX9_alike_40 : decode cX9_alike 40 = .ok (.aload_n 0, 1) := by decide +kernel
theorem dX9_alike_41 : decode cX9_alike 41 = .ok (.getfield 10, 3) := by decide +kernel
theorem dX9_alike_44 : decode cX9_alike 44 = .ok (.getfield 98, 3) := by decide +kernel
theorem dX9_alike_47 : decode cX9_alike 47 = .ok (.iload_n 1, 1) := by decide +kernel
theorem dX9_alike_48 : decode cX9_alike 48 = .ok (.aload_n 0, 1) := by decide +kernel
theorem dX9_alike_49 : decode cX9_alike 49 = .ok (.getfield 55, 3) := by decide +kernel
theorem dX9_alike_52 : decode cX9_alike 52 = .ok (.invokevirtual 190, 3) := by decide +kernel
theorem dX9_alike_55 : decode cX9_alike 55 = .ok (.aload_n 0, 1) := by decide +kernel
theorem dX9_alike_56 : decode cX9_alike 56 = .ok (.getfield 30, 3) := by decide +kernel
theorem dX9_alike_59 : decode cX9_alike 59 = .ok (.aload_n 0, 1) := by decide +kernel
theorem dX9_alike_60 : decode cX9_alike 60 = .ok (.getfield 10, 3) := by decide +kernel
theorem dX9_alike_63 : decode cX9_alike 63 = .ok (.getfield 98, 3) := by decide +kernel
theorem dX9_alike_66 : decode cX9_alike 66 = .ok (.iload_n 3, 1) := by decide +kernel
theorem dX9_alike_67 : decode cX9_alike 67 = .ok (.aload_n 0, 1) := by decide +kernel
theorem dX9_alike_68 : decode cX9_alike 68 = .ok (.getfield 59, 3) := by decide +kernel
theorem dX9_alike_71 : decode cX9_alike 71 = .ok (.invokevirtual 190, 3) := by decide +kernel
theorem dX9_alike_74 : decode cX9_alike 74 = .ok (.aload_n 0, 1) := by decide +kernel
theorem dX9_alike_75 : decode cX9_alike 75 = .ok (.getfield 10, 3) := by decide +kernel
theorem dX9_alike_78 : decode cX9_alike 78 = .ok (.getfield 98, 3) := by decide +kernel
theorem dX9_alike_81 : decode cX9_alike 81 = .ok (.aload_n 0, 1) := by decide +kernel
theorem dX9_alike_82 : decode cX9_alike 82 = .ok (.getfield 55, 3) := by decide +kernel
theorem dX9_alike_85 : decode cX9_alike 85 = .ok (.iload_n 2, 1) := by decide +kernel
theorem dX9_alike_86 : decode cX9_alike 86 = .ok (.invokevirtual 207, 3) := by decide +kernel
theorem dX9_alike_89 : decode cX9_alike 89 = .ok (.aload_n 0, 1) := by decide +kernel
theorem dX9_alike_90 : decode cX9_alike 90 = .ok (.getfield 10, 3) := by decide +kernel
theorem dX9_alike_93 : decode cX9_alike 93 = .ok (.getfield 98, 3) := by decide +kernel
theorem dX9_alike_96 : decode cX9_alike 96 = .ok (.aload_n 0, 1) := by decide +kernel
theorem dX9_alike_97 : decode cX9_alike 97 = .ok (.getfield 59, 3) := by decide +kernel
theorem dX9_alike_100 : decode cX9_alike 100 = .ok (.iload 4, 2) := by decide +kernel
theorem dX9_alike_102 : decode cX9_alike 102 = .ok (.invokevirtual 207, 3) := by decide +kernel
theorem dX9_alike_105 : decode cX9_alike 105 = .ok (.land, 1) := by decide +kernel
theorem dX9_alike_106 : decode cX9_alike 106 = .ok (.invokestatic 211, 3) := by decide +kernel
theorem dX9_alike_109 : decode cX9_alike 109 = .ok (.ireturn, 1) := by decide +kernel
theorem dX9_sell_0 : decode cX9_sell 0 = .ok (.aload_n 0, 1) := by decide +kernel
theorem dX9_sell_1 : decode cX9_sell 1 = .ok (.iload_n 1, 1) := by decide +kernel
theorem dX9_sell_2 : decode cX9_sell 2 = .ok (.invokevirtual 183, 3) := by decide +kernel
theorem dX9_sell_5 : decode cX9_sell 5 = .ok (.ifCond .ne 6, 3) := by decide +kernel
theorem dX9_sell_8 : decode cX9_sell 8 = .ok (.bipush (-2), 2) := by decide +kernel
theorem dX9_sell_10 : decode cX9_sell 10 = .ok (.ireturn, 1) := by decide +kernel
theorem dX9_sell_11 : decode cX9_sell 11 = .ok (.aload_n 0, 1) := by decide +kernel
theorem dX9_sell_12 : decode cX9_sell 12 = .ok (.getfield 10, 3) := by decide +kernel
theorem dX9_sell_15 : decode cX9_sell 15 = .ok (.getfield 217, 3) := by decide +kernel
theorem dX9_sell_18 : decode cX9_sell 18 = .ok (.bipush 8, 2) := by decide +kernel
theorem dX9_sell_20 : decode cX9_sell 20 = .ok (.if_icmp .lt 6, 3) := by decide +kernel
theorem dX9_sell_23 : decode cX9_sell 23 = .ok (.bipush (-3), 2) := by decide +kernel
theorem dX9_sell_25 : decode cX9_sell 25 = .ok (.ireturn, 1) := by decide +kernel
theorem dX9_sell_26 : decode cX9_sell 26 = .ok (.aload_n 0, 1) := by decide +kernel
theorem dX9_sell_27 : decode cX9_sell 27 = .ok (.getfield 30, 3) := by decide +kernel
theorem dX9_sell_30 : decode cX9_sell 30 = .ok (.aload_n 0, 1) := by decide +kernel
theorem dX9_sell_31 : decode cX9_sell 31 = .ok (.getfield 10, 3) := by decide +kernel
theorem dX9_sell_34 : decode cX9_sell 34 = .ok (.getfield 98, 3) := by decide +kernel
theorem dX9_sell_37 : decode cX9_sell 37 = .ok (.iload_n 1, 1) := by decide +kernel
theorem dX9_sell_38 : decode cX9_sell 38 = .ok (.aload_n 0, 1) := by decide +kernel
theorem dX9_sell_39 : decode cX9_sell 39 = .ok (.getfield 55, 3) := by decide +kernel
theorem dX9_sell_42 : decode cX9_sell 42 = .ok (.invokevirtual 190, 3) := by decide +kernel
theorem dX9_sell_45 : decode cX9_sell 45 = .ok (.aload_n 0, 1) := by decide +kernel
theorem dX9_sell_46 : decode cX9_sell 46 = .ok (.getfield 10, 3) := by decide +kernel
theorem dX9_sell_49 : decode cX9_sell 49 = .ok (.aload_n 0, 1) := by decide +kernel
theorem dX9_sell_50 : decode cX9_sell 50 = .ok (.getfield 55, 3) := by decide +kernel
theorem dX9_sell_53 : decode cX9_sell 53 = .ok (.invokevirtual 220, 3) := by decide +kernel
theorem dX9_sell_56 : decode cX9_sell 56 = .ok (.ifCond .eq 6, 3) := by decide +kernel
theorem dX9_sell_59 : decode cX9_sell 59 = .ok (.bipush (-5), 2) := by decide +kernel
theorem dX9_sell_61 : decode cX9_sell 61 = .ok (.ireturn, 1) := by decide +kernel
theorem dX9_sell_62 : decode cX9_sell 62 = .ok (.aload_n 0, 1) := by decide +kernel
theorem dX9_sell_63 : decode cX9_sell 63 = .ok (.getfield 10, 3) := by decide +kernel
theorem dX9_sell_66 : decode cX9_sell 66 = .ok (.iload_n 1, 1) := by decide +kernel
theorem dX9_sell_67 : decode cX9_sell 67 = .ok (.aload_n 0, 1) := by decide +kernel
theorem dX9_sell_68 : decode cX9_sell 68 = .ok (.getfield 55, 3) := by decide +kernel
theorem dX9_sell_71 : decode cX9_sell 71 = .ok (.invokevirtual 224, 3) := by decide +kernel
theorem dX9_sell_74 : decode cX9_sell 74 = .ok (.aload_n 0, 1) := by decide +kernel
theorem dX9_sell_75 : decode cX9_sell 75 = .ok (.getfield 10, 3) := by decide +kernel
theorem dX9_sell_78 : decode cX9_sell 78 = .ok (.getfield 217, 3) := by decide +kernel
theorem dX9_sell_81 : decode cX9_sell 81 = .ok (.ireturn, 1) := by decide +kernel
theorem dX9_unsell_0 : decode cX9_unsell 0 = .ok (.aload_n 0, 1) := by decide +kernel
theorem dX9_unsell_1 : decode cX9_unsell 1 = .ok (.invokevirtual 133, 3) := by decide +kernel
theorem dX9_unsell_4 : decode cX9_unsell 4 = .ok (.ifCond .ne 6, 3) := by decide +kernel
theorem dX9_unsell_7 : decode cX9_unsell 7 = .ok (.bipush (-2), 2) := by decide +kernel
theorem dX9_unsell_9 : decode cX9_unsell 9 = .ok (.ireturn, 1) := by decide +kernel
theorem dX9_unsell_10 : decode cX9_unsell 10 = .ok (.aload_n 0, 1) := by decide +kernel
theorem dX9_unsell_11 : decode cX9_unsell 11 = .ok (.getfield 10, 3) := by decide +kernel
theorem dX9_unsell_14 : decode cX9_unsell 14 = .ok (.getfield 217, 3) := by decide +kernel
theorem dX9_unsell_17 : decode cX9_unsell 17 = .ok (.iconst 1, 1) := by decide +kernel
theorem dX9_unsell_18 : decode cX9_unsell 18 = .ok (.if_icmp .ge 5, 3) := by decide +kernel
theorem dX9_unsell_21 : decode cX9_unsell 21 = .ok (.iconst 0, 1) := by decide +kernel
theorem dX9_unsell_22 : decode cX9_unsell 22 = .ok (.ireturn, 1) := by decide +kernel
theorem dX9_unsell_23 : decode cX9_unsell 23 = .ok (.aload_n 0, 1) := by decide +kernel
theorem dX9_unsell_24 : decode cX9_unsell 24 = .ok (.getfield 10, 3) := by decide +kernel
theorem dX9_unsell_27 : decode cX9_unsell 27 = .ok (.dup, 1) := by decide +kernel
theorem dX9_unsell_28 : decode cX9_unsell 28 = .ok (.getfield 217, 3) := by decide +kernel
theorem dX9_unsell_31 : decode cX9_unsell 31 = .ok (.iconst 1, 1) := by decide +kernel
theorem dX9_unsell_32 : decode cX9_unsell 32 = .ok (.isub, 1) := by decide +kernel
theorem dX9_unsell_33 : decode cX9_unsell 33 = .ok (.putfield 217, 3) := by decide +kernel
theorem dX9_unsell_36 : decode cX9_unsell 36 = .ok (.iconst 1, 1) := by decide +kernel
theorem dX9_unsell_37 : decode cX9_unsell 37 = .ok (.ireturn, 1) := by decide +kernel
theorem dX9_sold_0 : decode cX9_sold 0 = .ok (.aload_n 0, 1) := by decide +kernel
theorem dX9_sold_1 : decode cX9_sold 1 = .ok (.iload_n 1, 1) := by decide +kernel
theorem dX9_sold_2 : decode cX9_sold 2 = .ok (.invokevirtual 228, 3) := by decide +kernel
theorem dX9_sold_5 : decode cX9_sold 5 = .ok (.ifCond .eq 15, 3) := by decide +kernel
theorem dX9_sold_8 : decode cX9_sold 8 = .ok (.aload_n 0, 1) := by decide +kernel
theorem dX9_sold_9 : decode cX9_sold 9 = .ok (.getfield 10, 3) := by decide +kernel
theorem dX9_sold_12 : decode cX9_sold 12 = .ok (.getfield 231, 3) := by decide +kernel
theorem dX9_sold_15 : decode cX9_sold 15 = .ok (.iload_n 1, 1) := by decide +kernel
theorem dX9_sold_16 : decode cX9_sold 16 = .ok (.iaload, 1) := by decide +kernel
theorem dX9_sold_17 : decode cX9_sold 17 = .ok (.goto 4, 3) := by decide +kernel
theorem dX9_sold_20 : decode cX9_sold 20 = .ok (.iconst (-1), 1) := by decide +kernel
theorem dX9_sold_21 : decode cX9_sold 21 = .ok (.ireturn, 1) := by decide +kernel
theorem dX9_caller_0 : decode cX9_caller 0 = .ok (.aload_n 0, 1) := by decide +kernel
theorem dX9_caller_1 : decode cX9_caller 1 = .ok (.invokevirtual 133, 3) := by decide +kernel
theorem dX9_caller_4 : decode cX9_caller 4 = .ok (.ifCond .eq 13, 3) := by decide +kernel
theorem dX9_caller_7 : decode cX9_caller 7 = .ok (.iload_n 1, 1) := by decide +kernel
theorem dX9_caller_8 : decode cX9_caller 8 = .ok (.ifCond .lt 9, 3) := by decide +kernel
theorem dX9_caller_11 : decode cX9_caller 11 = .ok (.iload_n 1, 1) := by decide +kernel
theorem dX9_caller_12 : decode cX9_caller 12 = .ok (.ldc 234, 2) := by decide +kernel
theorem dX9_caller_14 : decode cX9_caller 14 = .ok (.if_icmp .le 6, 3) := by decide +kernel
theorem dX9_caller_17 : decode cX9_caller 17 = .ok (.bipush (-2), 2) := by decide +kernel
theorem dX9_caller_19 : decode cX9_caller 19 = .ok (.ireturn, 1) := by decide +kernel
theorem dX9_caller_20 : decode cX9_caller 20 = .ok (.aload_n 0, 1) := by decide +kernel
theorem dX9_caller_21 : decode cX9_caller 21 = .ok (.getfield 30, 3) := by decide +kernel
theorem dX9_caller_24 : decode cX9_caller 24 = .ok (.aload_n 0, 1) := by decide +kernel
theorem dX9_caller_25 : decode cX9_caller 25 = .ok (.getfield 10, 3) := by decide +kernel
theorem dX9_caller_28 : decode cX9_caller 28 = .ok (.getfield 98, 3) := by decide +kernel
theorem dX9_caller_31 : decode cX9_caller 31 = .ok (.iload_n 1, 1) := by decide +kernel
theorem dX9_caller_32 : decode cX9_caller 32 = .ok (.aload_n 0, 1) := by decide +kernel
theorem dX9_caller_33 : decode cX9_caller 33 = .ok (.getfield 10, 3) := by decide +kernel
theorem dX9_caller_36 : decode cX9_caller 36 = .ok (.getfield 105, 3) := by decide +kernel
theorem dX9_caller_39 : decode cX9_caller 39 = .ok (.invokevirtual 108, 3) := by decide +kernel
theorem dX9_caller_42 : decode cX9_caller 42 = .ok (.aload_n 0, 1) := by decide +kernel
theorem dX9_caller_43 : decode cX9_caller 43 = .ok (.getfield 10, 3) := by decide +kernel
theorem dX9_caller_46 : decode cX9_caller 46 = .ok (.invokevirtual 112, 3) := by decide +kernel
theorem dX9_caller_49 : decode cX9_caller 49 = .ok (.iconst 0, 1) := by decide +kernel
theorem dX9_caller_50 : decode cX9_caller 50 = .ok (.ireturn, 1) := by decide +kernel
theorem dX9_calls_0 : decode cX9_calls 0 = .ok (.aload_n 0, 1) := by decide +kernel
theorem dX9_calls_1 : decode cX9_calls 1 = .ok (.invokevirtual 133, 3) := by decide +kernel
theorem dX9_calls_4 : decode cX9_calls 4 = .ok (.ifCond .eq 14, 3) := by decide +kernel
theorem dX9_calls_7 : decode cX9_calls 7 = .ok (.aload_n 0, 1) := by decide +kernel
theorem dX9_calls_8 : decode cX9_calls 8 = .ok (.getfield 44, 3) := by decide +kernel
theorem dX9_calls_11 : decode cX9_calls 11 = .ok (.iload_n 1, 1) := by decide +kernel
theorem dX9_calls_12 : decode cX9_calls 12 = .ok (.invokevirtual 149, 3) := by decide +kernel
theorem dX9_calls_15 : decode cX9_calls 15 = .ok (.ifCond .ne 6, 3) := by decide +kernel
theorem dX9_calls_18 : decode cX9_calls 18 = .ok (.bipush (-2), 2) := by decide +kernel
theorem dX9_calls_20 : decode cX9_calls 20 = .ok (.ireturn, 1) := by decide +kernel
theorem dX9_calls_21 : decode cX9_calls 21 = .ok (.aload_n 0, 1) := by decide +kernel
theorem dX9_calls_22 : decode cX9_calls 22 = .ok (.getfield 44, 3) := by decide +kernel
theorem dX9_calls_25 : decode cX9_calls 25 = .ok (.iload_n 1, 1) := by decide +kernel
theorem dX9_calls_26 : decode cX9_calls 26 = .ok (.invokevirtual 152, 3) := by decide +kernel
theorem dX9_calls_29 : decode cX9_calls 29 = .ok (.ifCond .ne 6, 3) := by decide +kernel
theorem dX9_calls_32 : decode cX9_calls 32 = .ok (.bipush (-6), 2) := by decide +kernel
theorem dX9_calls_34 : decode cX9_calls 34 = .ok (.ireturn, 1) := by decide +kernel
theorem dX9_calls_35 : decode cX9_calls 35 = .ok (.aload_n 0, 1) := by decide +kernel
theorem dX9_calls_36 : decode cX9_calls 36 = .ok (.iload_n 1, 1) := by decide +kernel
theorem dX9_calls_37 : decode cX9_calls 37 = .ok (.invokevirtual 235, 3) := by decide +kernel
theorem dX9_calls_40 : decode cX9_calls 40 = .ok (.ifCond .ne 6, 3) := by decide +kernel
theorem dX9_calls_43 : decode cX9_calls 43 = .ok (.bipush (-2), 2) := by decide +kernel
theorem dX9_calls_45 : decode cX9_calls 45 = .ok (.ireturn, 1) := by decide +kernel
theorem dX9_calls_46 : decode cX9_calls 46 = .ok (.iconst 0, 1) := by decide +kernel
theorem dX9_calls_47 : decode cX9_calls 47 = .ok (.istore_n 2, 1) := by decide +kernel
theorem dX9_calls_48 : decode cX9_calls 48 = .ok (.iload_n 2, 1) := by decide +kernel
theorem dX9_calls_49 : decode cX9_calls 49 = .ok (.aload_n 0, 1) := by decide +kernel
theorem dX9_calls_50 : decode cX9_calls 50 = .ok (.getfield 10, 3) := by decide +kernel
theorem dX9_calls_53 : decode cX9_calls 53 = .ok (.getfield 98, 3) := by decide +kernel
theorem dX9_calls_56 : decode cX9_calls 56 = .ok (.getfield 136, 3) := by decide +kernel
theorem dX9_calls_59 : decode cX9_calls 59 = .ok (.if_icmp .ge 28, 3) := by decide +kernel
theorem dX9_calls_62 : decode cX9_calls 62 = .ok (.aload_n 0, 1) := by decide +kernel
theorem dX9_calls_63 : decode cX9_calls 63 = .ok (.getfield 10, 3) := by decide +kernel
theorem dX9_calls_66 : decode cX9_calls 66 = .ok (.getfield 105, 3) := by decide +kernel
theorem dX9_calls_69 : decode cX9_calls 69 = .ok (.iload_n 2, 1) := by decide +kernel
theorem dX9_calls_70 : decode cX9_calls 70 = .ok (.aload_n 0, 1) := by decide +kernel
theorem dX9_calls_71 : decode cX9_calls 71 = .ok (.getfield 44, 3) := by decide +kernel
theorem dX9_calls_74 : decode cX9_calls 74 = .ok (.iload_n 1, 1) := by decide +kernel
theorem dX9_calls_75 : decode cX9_calls 75 = .ok (.iload_n 2, 1) := by decide +kernel
theorem dX9_calls_76 : decode cX9_calls 76 = .ok (.invokevirtual 162, 3) := by decide +kernel
theorem dX9_calls_79 : decode cX9_calls 79 = .ok (.l2i, 1) := by decide +kernel
theorem dX9_calls_80 : decode cX9_calls 80 = .ok (.iastore, 1) := by decide +kernel
theorem dX9_calls_81 : decode cX9_calls 81 = .ok (.iinc 2 1, 3) := by decide +kernel
theorem dX9_calls_84 : decode cX9_calls 84 = .ok (.goto (-36), 3) := by decide +kernel
theorem dX9_calls_87 : decode cX9_calls 87 = .ok (.aload_n 0, 1) := by decide +kernel
theorem dX9_calls_88 : decode cX9_calls 88 = .ok (.getfield 10, 3) := by decide +kernel
theorem dX9_calls_91 : decode cX9_calls 91 = .ok (.invokevirtual 112, 3) := by decide +kernel
theorem dX9_calls_94 : decode cX9_calls 94 = .ok (.iconst 0, 1) := by decide +kernel
theorem dX9_calls_95 : decode cX9_calls 95 = .ok (.ireturn, 1) := by decide +kernel
theorem dX9_isEachNumberOnce_0 : decode cX9_isEachNumberOnce 0 = .ok (.aload_n 0, 1) := by decide +kernel
theorem dX9_isEachNumberOnce_1 : decode cX9_isEachNumberOnce 1 = .ok (.getfield 44, 3) := by decide +kernel
theorem dX9_isEachNumberOnce_4 : decode cX9_isEachNumberOnce 4 = .ok (.iload_n 1, 1) := by decide +kernel
theorem dX9_isEachNumberOnce_5 : decode cX9_isEachNumberOnce 5 = .ok (.invokevirtual 155, 3) := by decide +kernel
theorem dX9_isEachNumberOnce_8 : decode cX9_isEachNumberOnce 8 = .ok (.aload_n 0, 1) := by decide +kernel
theorem dX9_isEachNumberOnce_9 : decode cX9_isEachNumberOnce 9 = .ok (.getfield 10, 3) := by decide +kernel
theorem dX9_isEachNumberOnce_12 : decode cX9_isEachNumberOnce 12 = .ok (.getfield 98, 3) := by decide +kernel
theorem dX9_isEachNumberOnce_15 : decode cX9_isEachNumberOnce 15 = .ok (.getfield 136, 3) := by decide +kernel
theorem dX9_isEachNumberOnce_18 : decode cX9_isEachNumberOnce 18 = .ok (.if_icmp .eq 5, 3) := by decide +kernel
theorem dX9_isEachNumberOnce_21 : decode cX9_isEachNumberOnce 21 = .ok (.iconst 0, 1) := by decide +kernel
theorem dX9_isEachNumberOnce_22 : decode cX9_isEachNumberOnce 22 = .ok (.ireturn, 1) := by decide +kernel
theorem dX9_isEachNumberOnce_23 : decode cX9_isEachNumberOnce 23 = .ok (.lconst 0, 1) := by decide +kernel
theorem dX9_isEachNumberOnce_24 : decode cX9_isEachNumberOnce 24 = .ok (.lstore_n 2, 1) := by decide +kernel
theorem dX9_isEachNumberOnce_25 : decode cX9_isEachNumberOnce 25 = .ok (.iconst 0, 1) := by decide +kernel
theorem dX9_isEachNumberOnce_26 : decode cX9_isEachNumberOnce 26 = .ok (.istore 4, 2) := by decide +kernel
theorem dX9_isEachNumberOnce_28 : decode cX9_isEachNumberOnce 28 = .ok (.iload 4, 2) := by decide +kernel
theorem dX9_isEachNumberOnce_30 : decode cX9_isEachNumberOnce 30 = .ok (.aload_n 0, 1) := by decide +kernel
theorem dX9_isEachNumberOnce_31 : decode cX9_isEachNumberOnce 31 = .ok (.getfield 10, 3) := by decide +kernel
theorem dX9_isEachNumberOnce_34 : decode cX9_isEachNumberOnce 34 = .ok (.getfield 98, 3) := by decide +kernel
theorem dX9_isEachNumberOnce_37 : decode cX9_isEachNumberOnce 37 = .ok (.getfield 136, 3) := by decide +kernel
theorem dX9_isEachNumberOnce_40 : decode cX9_isEachNumberOnce 40 = .ok (.if_icmp .ge 67, 3) := by decide +kernel
theorem dX9_isEachNumberOnce_43 : decode cX9_isEachNumberOnce 43 = .ok (.aload_n 0, 1) := by decide +kernel
theorem dX9_isEachNumberOnce_44 : decode cX9_isEachNumberOnce 44 = .ok (.getfield 44, 3) := by decide +kernel
theorem dX9_isEachNumberOnce_47 : decode cX9_isEachNumberOnce 47 = .ok (.iload_n 1, 1) := by decide +kernel
theorem dX9_isEachNumberOnce_48 : decode cX9_isEachNumberOnce 48 = .ok (.iload 4, 2) := by decide +kernel
theorem dX9_isEachNumberOnce_50 : decode cX9_isEachNumberOnce 50 = .ok (.invokevirtual 162, 3) := by decide +kernel
theorem dX9_isEachNumberOnce_53 : decode cX9_isEachNumberOnce 53 = .ok (.lstore 5, 2) := by decide +kernel
theorem dX9_isEachNumberOnce_55 : decode cX9_isEachNumberOnce 55 = .ok (.lload 5, 2) := by decide +kernel
theorem dX9_isEachNumberOnce_57 : decode cX9_isEachNumberOnce 57 = .ok (.lconst 1, 1) := by decide +kernel
theorem dX9_isEachNumberOnce_58 : decode cX9_isEachNumberOnce 58 = .ok (.lcmp, 1) := by decide +kernel
theorem dX9_isEachNumberOnce_59 : decode cX9_isEachNumberOnce 59 = .ok (.ifCond .lt 32, 3) := by decide +kernel
theorem dX9_isEachNumberOnce_62 : decode cX9_isEachNumberOnce 62 = .ok (.lload 5, 2) := by decide +kernel
theorem dX9_isEachNumberOnce_64 : decode cX9_isEachNumberOnce 64 = .ok (.aload_n 0, 1) := by decide +kernel
theorem dX9_isEachNumberOnce_65 : decode cX9_isEachNumberOnce 65 = .ok (.getfield 10, 3) := by decide +kernel
theorem dX9_isEachNumberOnce_68 : decode cX9_isEachNumberOnce 68 = .ok (.getfield 98, 3) := by decide +kernel
theorem dX9_isEachNumberOnce_71 : decode cX9_isEachNumberOnce 71 = .ok (.getfield 136, 3) := by decide +kernel
theorem dX9_isEachNumberOnce_74 : decode cX9_isEachNumberOnce 74 = .ok (.i2l, 1) := by decide +kernel
theorem dX9_isEachNumberOnce_75 : decode cX9_isEachNumberOnce 75 = .ok (.lcmp, 1) := by decide +kernel
theorem dX9_isEachNumberOnce_76 : decode cX9_isEachNumberOnce 76 = .ok (.ifCond .gt 15, 3) := by decide +kernel
theorem dX9_isEachNumberOnce_79 : decode cX9_isEachNumberOnce 79 = .ok (.lload_n 2, 1) := by decide +kernel
theorem dX9_isEachNumberOnce_80 : decode cX9_isEachNumberOnce 80 = .ok (.lload 5, 2) := by decide +kernel
theorem dX9_isEachNumberOnce_82 : decode cX9_isEachNumberOnce 82 = .ok (.l2i, 1) := by decide +kernel
theorem dX9_isEachNumberOnce_83 : decode cX9_isEachNumberOnce 83 = .ok (.lshr, 1) := by decide +kernel
theorem dX9_isEachNumberOnce_84 : decode cX9_isEachNumberOnce 84 = .ok (.lconst 1, 1) := by decide +kernel
theorem dX9_isEachNumberOnce_85 : decode cX9_isEachNumberOnce 85 = .ok (.land, 1) := by decide +kernel
theorem dX9_isEachNumberOnce_86 : decode cX9_isEachNumberOnce 86 = .ok (.lconst 1, 1) := by decide +kernel
theorem dX9_isEachNumberOnce_87 : decode cX9_isEachNumberOnce 87 = .ok (.lcmp, 1) := by decide +kernel
theorem dX9_isEachNumberOnce_88 : decode cX9_isEachNumberOnce 88 = .ok (.ifCond .ne 5, 3) := by decide +kernel
theorem dX9_isEachNumberOnce_91 : decode cX9_isEachNumberOnce 91 = .ok (.iconst 0, 1) := by decide +kernel
theorem dX9_isEachNumberOnce_92 : decode cX9_isEachNumberOnce 92 = .ok (.ireturn, 1) := by decide +kernel
theorem dX9_isEachNumberOnce_93 : decode cX9_isEachNumberOnce 93 = .ok (.lload_n 2, 1) := by decide +kernel
theorem dX9_isEachNumberOnce_94 : decode cX9_isEachNumberOnce 94 = .ok (.lconst 1, 1) := by decide +kernel
theorem dX9_isEachNumberOnce_95 : decode cX9_isEachNumberOnce 95 = .ok (.lload 5, 2) := by decide +kernel
theorem dX9_isEachNumberOnce_97 : decode cX9_isEachNumberOnce 97 = .ok (.l2i, 1) := by decide +kernel
theorem dX9_isEachNumberOnce_98 : decode cX9_isEachNumberOnce 98 = .ok (.lshl, 1) := by decide +kernel
theorem dX9_isEachNumberOnce_99 : decode cX9_isEachNumberOnce 99 = .ok (.lor, 1) := by decide +kernel
theorem dX9_isEachNumberOnce_100 : decode cX9_isEachNumberOnce 100 = .ok (.lstore_n 2, 1) := by decide +kernel
theorem dX9_isEachNumberOnce_101 : decode cX9_isEachNumberOnce 101 = .ok (.iinc 4 1, 3) := by decide +kernel
theorem dX9_isEachNumberOnce_104 : decode cX9_isEachNumberOnce 104 = .ok (.goto (-76), 3) := by decide +kernel
theorem dX9_isEachNumberOnce_107 : decode cX9_isEachNumberOnce 107 = .ok (.iconst 1, 1) := by decide +kernel
theorem dX9_isEachNumberOnce_108 : decode cX9_isEachNumberOnce 108 = .ok (.ireturn, 1) := by decide +kernel
theorem dX9_call_0 : decode cX9_call 0 = .ok (.aload_n 0, 1) := by decide +kernel
theorem dX9_call_1 : decode cX9_call 1 = .ok (.invokevirtual 133, 3) := by decide +kernel
theorem dX9_call_4 : decode cX9_call 4 = .ok (.ifCond .eq 33, 3) := by decide +kernel
theorem dX9_call_7 : decode cX9_call 7 = .ok (.iload_n 1, 1) := by decide +kernel
theorem dX9_call_8 : decode cX9_call 8 = .ok (.ifCond .lt 29, 3) := by decide +kernel
theorem dX9_call_11 : decode cX9_call 11 = .ok (.iload_n 1, 1) := by decide +kernel
theorem dX9_call_12 : decode cX9_call 12 = .ok (.aload_n 0, 1) := by decide +kernel
theorem dX9_call_13 : decode cX9_call 13 = .ok (.getfield 10, 3) := by decide +kernel
theorem dX9_call_16 : decode cX9_call 16 = .ok (.getfield 98, 3) := by decide +kernel
theorem dX9_call_19 : decode cX9_call 19 = .ok (.getfield 136, 3) := by decide +kernel
theorem dX9_call_22 : decode cX9_call 22 = .ok (.if_icmp .ge 15, 3) := by decide +kernel
theorem dX9_call_25 : decode cX9_call 25 = .ok (.aload_n 0, 1) := by decide +kernel
theorem dX9_call_26 : decode cX9_call 26 = .ok (.getfield 10, 3) := by decide +kernel
theorem dX9_call_29 : decode cX9_call 29 = .ok (.getfield 105, 3) := by decide +kernel
theorem dX9_call_32 : decode cX9_call 32 = .ok (.iload_n 1, 1) := by decide +kernel
theorem dX9_call_33 : decode cX9_call 33 = .ok (.iaload, 1) := by decide +kernel
theorem dX9_call_34 : decode cX9_call 34 = .ok (.goto 4, 3) := by decide +kernel
theorem dX9_call_37 : decode cX9_call 37 = .ok (.iconst (-1), 1) := by decide +kernel
theorem dX9_call_38 : decode cX9_call 38 = .ok (.ireturn, 1) := by decide +kernel
theorem dX9_called_0 : decode cX9_called 0 = .ok (.aload_n 0, 1) := by decide +kernel
theorem dX9_called_1 : decode cX9_called 1 = .ok (.iload_n 1, 1) := by decide +kernel
theorem dX9_called_2 : decode cX9_called 2 = .ok (.invokevirtual 197, 3) := by decide +kernel
theorem dX9_called_5 : decode cX9_called 5 = .ok (.ifCond .eq 15, 3) := by decide +kernel
theorem dX9_called_8 : decode cX9_called 8 = .ok (.aload_n 0, 1) := by decide +kernel
theorem dX9_called_9 : decode cX9_called 9 = .ok (.getfield 10, 3) := by decide +kernel
theorem dX9_called_12 : decode cX9_called 12 = .ok (.getfield 238, 3) := by decide +kernel
theorem dX9_called_15 : decode cX9_called 15 = .ok (.iload_n 1, 1) := by decide +kernel
theorem dX9_called_16 : decode cX9_called 16 = .ok (.iaload, 1) := by decide +kernel
theorem dX9_called_17 : decode cX9_called 17 = .ok (.goto 5, 3) := by decide +kernel
theorem dX9_called_20 : decode cX9_called 20 = .ok (.bipush (-2), 2) := by decide +kernel
theorem dX9_called_22 : decode cX9_called 22 = .ok (.ireturn, 1) := by decide +kernel
theorem dX9_daubs_0 : decode cX9_daubs 0 = .ok (.aload_n 0, 1) := by decide +kernel
theorem dX9_daubs_1 : decode cX9_daubs 1 = .ok (.iload_n 1, 1) := by decide +kernel
theorem dX9_daubs_2 : decode cX9_daubs 2 = .ok (.invokevirtual 183, 3) := by decide +kernel
theorem dX9_daubs_5 : decode cX9_daubs 5 = .ok (.ifCond .eq 19, 3) := by decide +kernel
theorem dX9_daubs_8 : decode cX9_daubs 8 = .ok (.aload_n 0, 1) := by decide +kernel
theorem dX9_daubs_9 : decode cX9_daubs 9 = .ok (.iload_n 2, 1) := by decide +kernel
theorem dX9_daubs_10 : decode cX9_daubs 10 = .ok (.invokevirtual 142, 3) := by decide +kernel
theorem dX9_daubs_13 : decode cX9_daubs 13 = .ok (.ifCond .eq 11, 3) := by decide +kernel
theorem dX9_daubs_16 : decode cX9_daubs 16 = .ok (.aload_n 0, 1) := by decide +kernel
theorem dX9_daubs_17 : decode cX9_daubs 17 = .ok (.iload_n 3, 1) := by decide +kernel
theorem dX9_daubs_18 : decode cX9_daubs 18 = .ok (.invokevirtual 241, 3) := by decide +kernel
theorem dX9_daubs_21 : decode cX9_daubs 21 = .ok (.ifCond .ne 6, 3) := by decide +kernel
theorem dX9_daubs_24 : decode cX9_daubs 24 = .ok (.bipush (-2), 2) := by decide +kernel
theorem dX9_daubs_26 : decode cX9_daubs 26 = .ok (.ireturn, 1) := by decide +kernel
theorem dX9_daubs_27 : decode cX9_daubs 27 = .ok (.aload_n 0, 1) := by decide +kernel
theorem dX9_daubs_28 : decode cX9_daubs 28 = .ok (.iload_n 1, 1) := by decide +kernel
theorem dX9_daubs_29 : decode cX9_daubs 29 = .ok (.iload_n 2, 1) := by decide +kernel
theorem dX9_daubs_30 : decode cX9_daubs 30 = .ok (.invokevirtual 244, 3) := by decide +kernel
theorem dX9_daubs_33 : decode cX9_daubs 33 = .ok (.iload_n 3, 1) := by decide +kernel
theorem dX9_daubs_34 : decode cX9_daubs 34 = .ok (.invokevirtual 248, 3) := by decide +kernel
theorem dX9_daubs_37 : decode cX9_daubs 37 = .ok (.ireturn, 1) := by decide +kernel
theorem dX9_full_0 : decode cX9_full 0 = .ok (.aload_n 0, 1) := by decide +kernel
theorem dX9_full_1 : decode cX9_full 1 = .ok (.iload_n 1, 1) := by decide +kernel
theorem dX9_full_2 : decode cX9_full 2 = .ok (.invokevirtual 183, 3) := by decide +kernel
theorem dX9_full_5 : decode cX9_full 5 = .ok (.ifCond .eq 19, 3) := by decide +kernel
theorem dX9_full_8 : decode cX9_full 8 = .ok (.aload_n 0, 1) := by decide +kernel
theorem dX9_full_9 : decode cX9_full 9 = .ok (.iload_n 2, 1) := by decide +kernel
theorem dX9_full_10 : decode cX9_full 10 = .ok (.invokevirtual 142, 3) := by decide +kernel
theorem dX9_full_13 : decode cX9_full 13 = .ok (.ifCond .eq 11, 3) := by decide +kernel
theorem dX9_full_16 : decode cX9_full 16 = .ok (.aload_n 0, 1) := by decide +kernel
theorem dX9_full_17 : decode cX9_full 17 = .ok (.iload_n 3, 1) := by decide +kernel
theorem dX9_full_18 : decode cX9_full 18 = .ok (.invokevirtual 241, 3) := by decide +kernel
theorem dX9_full_21 : decode cX9_full 21 = .ok (.ifCond .ne 6, 3) := by decide +kernel
theorem dX9_full_24 : decode cX9_full 24 = .ok (.bipush (-2), 2) := by decide +kernel
theorem dX9_full_26 : decode cX9_full 26 = .ok (.ireturn, 1) := by decide +kernel
theorem dX9_full_27 : decode cX9_full 27 = .ok (.aload_n 0, 1) := by decide +kernel
theorem dX9_full_28 : decode cX9_full 28 = .ok (.iload_n 1, 1) := by decide +kernel
theorem dX9_full_29 : decode cX9_full 29 = .ok (.iload_n 2, 1) := by decide +kernel
theorem dX9_full_30 : decode cX9_full 30 = .ok (.invokevirtual 244, 3) := by decide +kernel
theorem dX9_full_33 : decode cX9_full 33 = .ok (.iload_n 3, 1) := by decide +kernel
theorem dX9_full_34 : decode cX9_full 34 = .ok (.invokevirtual 251, 3) := by decide +kernel
theorem dX9_full_37 : decode cX9_full 37 = .ok (.ireturn, 1) := by decide +kernel
theorem dX9_lacks_0 : decode cX9_lacks 0 = .ok (.aload_n 0, 1) := by decide +kernel
theorem dX9_lacks_1 : decode cX9_lacks 1 = .ok (.iload_n 1, 1) := by decide +kernel
theorem dX9_lacks_2 : decode cX9_lacks 2 = .ok (.invokevirtual 183, 3) := by decide +kernel
theorem dX9_lacks_5 : decode cX9_lacks 5 = .ok (.ifCond .eq 28, 3) := by decide +kernel
theorem dX9_lacks_8 : decode cX9_lacks 8 = .ok (.aload_n 0, 1) := by decide +kernel
theorem dX9_lacks_9 : decode cX9_lacks 9 = .ok (.iload_n 2, 1) := by decide +kernel
theorem dX9_lacks_10 : decode cX9_lacks 10 = .ok (.invokevirtual 142, 3) := by decide +kernel
theorem dX9_lacks_13 : decode cX9_lacks 13 = .ok (.ifCond .eq 20, 3) := by decide +kernel
theorem dX9_lacks_16 : decode cX9_lacks 16 = .ok (.aload_n 0, 1) := by decide +kernel
theorem dX9_lacks_17 : decode cX9_lacks 17 = .ok (.iload_n 3, 1) := by decide +kernel
theorem dX9_lacks_18 : decode cX9_lacks 18 = .ok (.invokevirtual 254, 3) := by decide +kernel
theorem dX9_lacks_21 : decode cX9_lacks 21 = .ok (.ifCond .eq 12, 3) := by decide +kernel
theorem dX9_lacks_24 : decode cX9_lacks 24 = .ok (.aload_n 0, 1) := by decide +kernel
theorem dX9_lacks_25 : decode cX9_lacks 25 = .ok (.iload 4, 2) := by decide +kernel
theorem dX9_lacks_27 : decode cX9_lacks 27 = .ok (.invokevirtual 241, 3) := by decide +kernel
theorem dX9_lacks_30 : decode cX9_lacks 30 = .ok (.ifCond .ne 6, 3) := by decide +kernel
theorem dX9_lacks_33 : decode cX9_lacks 33 = .ok (.bipush (-2), 2) := by decide +kernel
theorem dX9_lacks_35 : decode cX9_lacks 35 = .ok (.ireturn, 1) := by decide +kernel
theorem dX9_lacks_36 : decode cX9_lacks 36 = .ok (.aload_n 0, 1) := by decide +kernel
theorem dX9_lacks_37 : decode cX9_lacks 37 = .ok (.iload_n 1, 1) := by decide +kernel
theorem dX9_lacks_38 : decode cX9_lacks 38 = .ok (.iload_n 2, 1) := by decide +kernel
theorem dX9_lacks_39 : decode cX9_lacks 39 = .ok (.invokevirtual 244, 3) := by decide +kernel
theorem dX9_lacks_42 : decode cX9_lacks 42 = .ok (.iload_n 3, 1) := by decide +kernel
theorem dX9_lacks_43 : decode cX9_lacks 43 = .ok (.iload 4, 2) := by decide +kernel
theorem dX9_lacks_45 : decode cX9_lacks 45 = .ok (.invokevirtual 257, 3) := by decide +kernel
theorem dX9_lacks_48 : decode cX9_lacks 48 = .ok (.ireturn, 1) := by decide +kernel
theorem dX9_done_0 : decode cX9_done 0 = .ok (.aload_n 0, 1) := by decide +kernel
theorem dX9_done_1 : decode cX9_done 1 = .ok (.iload_n 1, 1) := by decide +kernel
theorem dX9_done_2 : decode cX9_done 2 = .ok (.invokevirtual 183, 3) := by decide +kernel
theorem dX9_done_5 : decode cX9_done 5 = .ok (.ifCond .eq 19, 3) := by decide +kernel
theorem dX9_done_8 : decode cX9_done 8 = .ok (.aload_n 0, 1) := by decide +kernel
theorem dX9_done_9 : decode cX9_done 9 = .ok (.iload_n 2, 1) := by decide +kernel
theorem dX9_done_10 : decode cX9_done 10 = .ok (.invokevirtual 142, 3) := by decide +kernel
theorem dX9_done_13 : decode cX9_done 13 = .ok (.ifCond .eq 11, 3) := by decide +kernel
theorem dX9_done_16 : decode cX9_done 16 = .ok (.aload_n 0, 1) := by decide +kernel
theorem dX9_done_17 : decode cX9_done 17 = .ok (.iload_n 3, 1) := by decide +kernel
theorem dX9_done_18 : decode cX9_done 18 = .ok (.invokevirtual 254, 3) := by decide +kernel
theorem dX9_done_21 : decode cX9_done 21 = .ok (.ifCond .ne 6, 3) := by decide +kernel
theorem dX9_done_24 : decode cX9_done 24 = .ok (.bipush (-2), 2) := by decide +kernel
theorem dX9_done_26 : decode cX9_done 26 = .ok (.ireturn, 1) := by decide +kernel
theorem dX9_done_27 : decode cX9_done 27 = .ok (.aload_n 0, 1) := by decide +kernel
theorem dX9_done_28 : decode cX9_done 28 = .ok (.iload_n 1, 1) := by decide +kernel
theorem dX9_done_29 : decode cX9_done 29 = .ok (.iload_n 2, 1) := by decide +kernel
theorem dX9_done_30 : decode cX9_done 30 = .ok (.invokevirtual 244, 3) := by decide +kernel
theorem dX9_done_33 : decode cX9_done 33 = .ok (.iload_n 3, 1) := by decide +kernel
theorem dX9_done_34 : decode cX9_done 34 = .ok (.invokevirtual 260, 3) := by decide +kernel
theorem dX9_done_37 : decode cX9_done 37 = .ok (.ireturn, 1) := by decide +kernel
theorem dX9_claim_0 : decode cX9_claim 0 = .ok (.aload_n 0, 1) := by decide +kernel
theorem dX9_claim_1 : decode cX9_claim 1 = .ok (.iload_n 1, 1) := by decide +kernel
theorem dX9_claim_2 : decode cX9_claim 2 = .ok (.invokevirtual 183, 3) := by decide +kernel
theorem dX9_claim_5 : decode cX9_claim 5 = .ok (.ifCond .eq 33, 3) := by decide +kernel
theorem dX9_claim_8 : decode cX9_claim 8 = .ok (.aload_n 0, 1) := by decide +kernel
theorem dX9_claim_9 : decode cX9_claim 9 = .ok (.iload_n 2, 1) := by decide +kernel
theorem dX9_claim_10 : decode cX9_claim 10 = .ok (.invokevirtual 142, 3) := by decide +kernel
theorem dX9_claim_13 : decode cX9_claim 13 = .ok (.ifCond .eq 25, 3) := by decide +kernel
theorem dX9_claim_16 : decode cX9_claim 16 = .ok (.aload_n 0, 1) := by decide +kernel
theorem dX9_claim_17 : decode cX9_claim 17 = .ok (.iload_n 3, 1) := by decide +kernel
theorem dX9_claim_18 : decode cX9_claim 18 = .ok (.invokevirtual 254, 3) := by decide +kernel
theorem dX9_claim_21 : decode cX9_claim 21 = .ok (.ifCond .eq 17, 3) := by decide +kernel
theorem dX9_claim_24 : decode cX9_claim 24 = .ok (.aload_n 0, 1) := by decide +kernel
theorem dX9_claim_25 : decode cX9_claim 25 = .ok (.iload 4, 2) := by decide +kernel
theorem dX9_claim_27 : decode cX9_claim 27 = .ok (.invokevirtual 241, 3) := by decide +kernel
theorem dX9_claim_30 : decode cX9_claim 30 = .ok (.ifCond .eq 8, 3) := by decide +kernel
theorem dX9_claim_33 : decode cX9_claim 33 = .ok (.iload 4, 2) := by decide +kernel
theorem dX9_claim_35 : decode cX9_claim 35 = .ok (.ifCond .ne 6, 3) := by decide +kernel
theorem dX9_claim_38 : decode cX9_claim 38 = .ok (.bipush (-2), 2) := by decide +kernel
theorem dX9_claim_40 : decode cX9_claim 40 = .ok (.ireturn, 1) := by decide +kernel
theorem dX9_claim_41 : decode cX9_claim 41 = .ok (.aload_n 0, 1) := by decide +kernel
theorem dX9_claim_42 : decode cX9_claim 42 = .ok (.iload_n 1, 1) := by decide +kernel
theorem dX9_claim_43 : decode cX9_claim 43 = .ok (.iload_n 2, 1) := by decide +kernel
theorem dX9_claim_44 : decode cX9_claim 44 = .ok (.invokevirtual 244, 3) := by decide +kernel
theorem dX9_claim_47 : decode cX9_claim 47 = .ok (.iload_n 3, 1) := by decide +kernel
theorem dX9_claim_48 : decode cX9_claim 48 = .ok (.invokevirtual 260, 3) := by decide +kernel
theorem dX9_claim_51 : decode cX9_claim 51 = .ok (.istore 5, 2) := by decide +kernel
theorem dX9_claim_53 : decode cX9_claim 53 = .ok (.iload 5, 2) := by decide +kernel
theorem dX9_claim_55 : decode cX9_claim 55 = .ok (.iconst (-1), 1) := by decide +kernel
theorem dX9_claim_56 : decode cX9_claim 56 = .ok (.if_icmp .eq 10, 3) := by decide +kernel
theorem dX9_claim_59 : decode cX9_claim 59 = .ok (.iload 5, 2) := by decide +kernel
theorem dX9_claim_61 : decode cX9_claim 61 = .ok (.iload 4, 2) := by decide +kernel
theorem dX9_claim_63 : decode cX9_claim 63 = .ok (.if_icmp .le 5, 3) := by decide +kernel
theorem dX9_claim_66 : decode cX9_claim 66 = .ok (.iconst 1, 1) := by decide +kernel
theorem dX9_claim_67 : decode cX9_claim 67 = .ok (.ireturn, 1) := by decide +kernel
theorem dX9_claim_68 : decode cX9_claim 68 = .ok (.iload 5, 2) := by decide +kernel
theorem dX9_claim_70 : decode cX9_claim 70 = .ok (.iload 4, 2) := by decide +kernel
theorem dX9_claim_72 : decode cX9_claim 72 = .ok (.if_icmp .ne 7, 3) := by decide +kernel
theorem dX9_claim_75 : decode cX9_claim 75 = .ok (.iconst 0, 1) := by decide +kernel
theorem dX9_claim_76 : decode cX9_claim 76 = .ok (.goto 4, 3) := by decide +kernel
theorem dX9_claim_79 : decode cX9_claim 79 = .ok (.iconst 2, 1) := by decide +kernel
theorem dX9_claim_80 : decode cX9_claim 80 = .ok (.ireturn, 1) := by decide +kernel
theorem dX9_first_0 : decode cX9_first 0 = .ok (.aload_n 0, 1) := by decide +kernel
theorem dX9_first_1 : decode cX9_first 1 = .ok (.iload_n 1, 1) := by decide +kernel
theorem dX9_first_2 : decode cX9_first 2 = .ok (.invokevirtual 254, 3) := by decide +kernel
theorem dX9_first_5 : decode cX9_first 5 = .ok (.ifCond .eq 18, 3) := by decide +kernel
theorem dX9_first_8 : decode cX9_first 8 = .ok (.aload_n 0, 1) := by decide +kernel
theorem dX9_first_9 : decode cX9_first 9 = .ok (.iload_n 1, 1) := by decide +kernel
theorem dX9_first_10 : decode cX9_first 10 = .ok (.aload_n 0, 1) := by decide +kernel
theorem dX9_first_11 : decode cX9_first 11 = .ok (.getfield 10, 3) := by decide +kernel
theorem dX9_first_14 : decode cX9_first 14 = .ok (.getfield 238, 3) := by decide +kernel
theorem dX9_first_17 : decode cX9_first 17 = .ok (.invokevirtual 263, 3) := by decide +kernel
theorem dX9_first_20 : decode cX9_first 20 = .ok (.goto 5, 3) := by decide +kernel
theorem dX9_first_23 : decode cX9_first 23 = .ok (.bipush (-2), 2) := by decide +kernel
theorem dX9_first_25 : decode cX9_first 25 = .ok (.ireturn, 1) := by decide +kernel
theorem dX9_winner_0 : decode cX9_winner 0 = .ok (.aload_n 0, 1) := by decide +kernel
theorem dX9_winner_1 : decode cX9_winner 1 = .ok (.iload_n 1, 1) := by decide +kernel
theorem dX9_winner_2 : decode cX9_winner 2 = .ok (.invokevirtual 254, 3) := by decide +kernel
theorem dX9_winner_5 : decode cX9_winner 5 = .ok (.ifCond .eq 8, 3) := by decide +kernel
theorem dX9_winner_8 : decode cX9_winner 8 = .ok (.iload_n 2, 1) := by decide +kernel
theorem dX9_winner_9 : decode cX9_winner 9 = .ok (.iconst (-1), 1) := by decide +kernel
theorem dX9_winner_10 : decode cX9_winner 10 = .ok (.if_icmp .ge 6, 3) := by decide +kernel
theorem dX9_winner_13 : decode cX9_winner 13 = .ok (.bipush (-2), 2) := by decide +kernel
theorem dX9_winner_15 : decode cX9_winner 15 = .ok (.ireturn, 1) := by decide +kernel
theorem dX9_winner_16 : decode cX9_winner 16 = .ok (.aload_n 0, 1) := by decide +kernel
theorem dX9_winner_17 : decode cX9_winner 17 = .ok (.iload_n 1, 1) := by decide +kernel
theorem dX9_winner_18 : decode cX9_winner 18 = .ok (.aload_n 0, 1) := by decide +kernel
theorem dX9_winner_19 : decode cX9_winner 19 = .ok (.getfield 10, 3) := by decide +kernel
theorem dX9_winner_22 : decode cX9_winner 22 = .ok (.getfield 238, 3) := by decide +kernel
theorem dX9_winner_25 : decode cX9_winner 25 = .ok (.invokevirtual 263, 3) := by decide +kernel
theorem dX9_winner_28 : decode cX9_winner 28 = .ok (.istore_n 3, 1) := by decide +kernel
theorem dX9_winner_29 : decode cX9_winner 29 = .ok (.iload_n 2, 1) := by decide +kernel
theorem dX9_winner_30 : decode cX9_winner 30 = .ok (.iconst (-1), 1) := by decide +kernel
theorem dX9_winner_31 : decode cX9_winner 31 = .ok (.if_icmp .ne 17, 3) := by decide +kernel
theorem dX9_winner_34 : decode cX9_winner 34 = .ok (.aload_n 0, 1) := by decide +kernel
theorem dX9_winner_35 : decode cX9_winner 35 = .ok (.iload_n 1, 1) := by decide +kernel
theorem dX9_winner_36 : decode cX9_winner 36 = .ok (.iload_n 3, 1) := by decide +kernel
theorem dX9_winner_37 : decode cX9_winner 37 = .ok (.aload_n 0, 1) := by decide +kernel
theorem dX9_winner_38 : decode cX9_winner 38 = .ok (.getfield 10, 3) := by decide +kernel
theorem dX9_winner_41 : decode cX9_winner 41 = .ok (.getfield 238, 3) := by decide +kernel
theorem dX9_winner_44 : decode cX9_winner 44 = .ok (.invokevirtual 267, 3) := by decide +kernel
theorem dX9_winner_47 : decode cX9_winner 47 = .ok (.ireturn, 1) := by decide +kernel
theorem dX9_winner_48 : decode cX9_winner 48 = .ok (.iconst 0, 1) := by decide +kernel
theorem dX9_winner_49 : decode cX9_winner 49 = .ok (.istore 4, 2) := by decide +kernel
theorem dX9_winner_51 : decode cX9_winner 51 = .ok (.iconst 0, 1) := by decide +kernel
theorem dX9_winner_52 : decode cX9_winner 52 = .ok (.istore 5, 2) := by decide +kernel
theorem dX9_winner_54 : decode cX9_winner 54 = .ok (.iload 5, 2) := by decide +kernel
theorem dX9_winner_56 : decode cX9_winner 56 = .ok (.aload_n 0, 1) := by decide +kernel
theorem dX9_winner_57 : decode cX9_winner 57 = .ok (.getfield 10, 3) := by decide +kernel
theorem dX9_winner_60 : decode cX9_winner 60 = .ok (.getfield 217, 3) := by decide +kernel
theorem dX9_winner_63 : decode cX9_winner 63 = .ok (.if_icmp .ge 64, 3) := by decide +kernel
theorem dX9_winner_66 : decode cX9_winner 66 = .ok (.iconst 0, 1) := by decide +kernel
theorem dX9_winner_67 : decode cX9_winner 67 = .ok (.istore 6, 2) := by decide +kernel
theorem dX9_winner_69 : decode cX9_winner 69 = .ok (.iload 6, 2) := by decide +kernel
theorem dX9_winner_71 : decode cX9_winner 71 = .ok (.aload_n 0, 1) := by decide +kernel
theorem dX9_winner_72 : decode cX9_winner 72 = .ok (.getfield 10, 3) := by decide +kernel
theorem dX9_winner_75 : decode cX9_winner 75 = .ok (.getfield 98, 3) := by decide +kernel
theorem dX9_winner_78 : decode cX9_winner 78 = .ok (.getfield 200, 3) := by decide +kernel
theorem dX9_winner_81 : decode cX9_winner 81 = .ok (.if_icmp .ge 40, 3) := by decide +kernel
theorem dX9_winner_84 : decode cX9_winner 84 = .ok (.aload_n 0, 1) := by decide +kernel
theorem dX9_winner_85 : decode cX9_winner 85 = .ok (.iload 5, 2) := by decide +kernel
theorem dX9_winner_87 : decode cX9_winner 87 = .ok (.iload 6, 2) := by decide +kernel
theorem dX9_winner_89 : decode cX9_winner 89 = .ok (.iload_n 1, 1) := by decide +kernel
theorem dX9_winner_90 : decode cX9_winner 90 = .ok (.iload_n 3, 1) := by decide +kernel
theorem dX9_winner_91 : decode cX9_winner 91 = .ok (.invokevirtual 271, 3) := by decide +kernel
theorem dX9_winner_94 : decode cX9_winner 94 = .ok (.ifCond .eq 21, 3) := by decide +kernel
theorem dX9_winner_97 : decode cX9_winner 97 = .ok (.iload 4, 2) := by decide +kernel
theorem dX9_winner_99 : decode cX9_winner 99 = .ok (.iload_n 2, 1) := by decide +kernel
theorem dX9_winner_100 : decode cX9_winner 100 = .ok (.if_icmp .ne 12, 3) := by decide +kernel
theorem dX9_winner_103 : decode cX9_winner 103 = .ok (.bipush 10, 2) := by decide +kernel
theorem dX9_winner_105 : decode cX9_winner 105 = .ok (.iload 5, 2) := by decide +kernel
theorem dX9_winner_107 : decode cX9_winner 107 = .ok (.imul, 1) := by decide +kernel
theorem dX9_winner_108 : decode cX9_winner 108 = .ok (.iload 6, 2) := by decide +kernel
theorem dX9_winner_110 : decode cX9_winner 110 = .ok (.iadd, 1) := by decide +kernel
theorem dX9_winner_111 : decode cX9_winner 111 = .ok (.ireturn, 1) := by decide +kernel
theorem dX9_winner_112 : decode cX9_winner 112 = .ok (.iinc 4 1, 3) := by decide +kernel
theorem dX9_winner_115 : decode cX9_winner 115 = .ok (.iinc 6 1, 3) := by decide +kernel
theorem dX9_winner_118 : decode cX9_winner 118 = .ok (.goto (-49), 3) := by decide +kernel
theorem dX9_winner_121 : decode cX9_winner 121 = .ok (.iinc 5 1, 3) := by decide +kernel
theorem dX9_winner_124 : decode cX9_winner 124 = .ok (.goto (-70), 3) := by decide +kernel
theorem dX9_winner_127 : decode cX9_winner 127 = .ok (.iconst (-1), 1) := by decide +kernel
theorem dX9_winner_128 : decode cX9_winner 128 = .ok (.ireturn, 1) := by decide +kernel
theorem dX9_prize_0 : decode cX9_prize 0 = .ok (.aload_n 0, 1) := by decide +kernel
theorem dX9_prize_1 : decode cX9_prize 1 = .ok (.iload_n 1, 1) := by decide +kernel
theorem dX9_prize_2 : decode cX9_prize 2 = .ok (.invokevirtual 254, 3) := by decide +kernel
theorem dX9_prize_5 : decode cX9_prize 5 = .ok (.ifCond .eq 12, 3) := by decide +kernel
theorem dX9_prize_8 : decode cX9_prize 8 = .ok (.iload_n 2, 1) := by decide +kernel
theorem dX9_prize_9 : decode cX9_prize 9 = .ok (.ifCond .lt 8, 3) := by decide +kernel
theorem dX9_prize_12 : decode cX9_prize 12 = .ok (.iload_n 2, 1) := by decide +kernel
theorem dX9_prize_13 : decode cX9_prize 13 = .ok (.iconst 1, 1) := by decide +kernel
theorem dX9_prize_14 : decode cX9_prize 14 = .ok (.if_icmp .le 6, 3) := by decide +kernel
theorem dX9_prize_17 : decode cX9_prize 17 = .ok (.bipush (-2), 2) := by decide +kernel
theorem dX9_prize_19 : decode cX9_prize 19 = .ok (.ireturn, 1) := by decide +kernel
theorem dX9_prize_20 : decode cX9_prize 20 = .ok (.aload_n 0, 1) := by decide +kernel
theorem dX9_prize_21 : decode cX9_prize 21 = .ok (.iload_n 1, 1) := by decide +kernel
theorem dX9_prize_22 : decode cX9_prize 22 = .ok (.aload_n 0, 1) := by decide +kernel
theorem dX9_prize_23 : decode cX9_prize 23 = .ok (.iload_n 1, 1) := by decide +kernel
theorem dX9_prize_24 : decode cX9_prize 24 = .ok (.aload_n 0, 1) := by decide +kernel
theorem dX9_prize_25 : decode cX9_prize 25 = .ok (.getfield 10, 3) := by decide +kernel
theorem dX9_prize_28 : decode cX9_prize 28 = .ok (.getfield 238, 3) := by decide +kernel
theorem dX9_prize_31 : decode cX9_prize 31 = .ok (.invokevirtual 263, 3) := by decide +kernel
theorem dX9_prize_34 : decode cX9_prize 34 = .ok (.aload_n 0, 1) := by decide +kernel
theorem dX9_prize_35 : decode cX9_prize 35 = .ok (.getfield 10, 3) := by decide +kernel
theorem dX9_prize_38 : decode cX9_prize 38 = .ok (.getfield 238, 3) := by decide +kernel
theorem dX9_prize_41 : decode cX9_prize 41 = .ok (.invokevirtual 267, 3) := by decide +kernel
theorem dX9_prize_44 : decode cX9_prize 44 = .ok (.istore_n 3, 1) := by decide +kernel
theorem dX9_prize_45 : decode cX9_prize 45 = .ok (.aload_n 0, 1) := by decide +kernel
theorem dX9_prize_46 : decode cX9_prize 46 = .ok (.getfield 10, 3) := by decide +kernel
theorem dX9_prize_49 : decode cX9_prize 49 = .ok (.getfield 275, 3) := by decide +kernel
theorem dX9_prize_52 : decode cX9_prize 52 = .ok (.iload_n 1, 1) := by decide +kernel
theorem dX9_prize_53 : decode cX9_prize 53 = .ok (.iaload, 1) := by decide +kernel
theorem dX9_prize_54 : decode cX9_prize 54 = .ok (.iload_n 3, 1) := by decide +kernel
theorem dX9_prize_55 : decode cX9_prize 55 = .ok (.invokestatic 278, 3) := by decide +kernel
theorem dX9_prize_58 : decode cX9_prize 58 = .ok (.istore 4, 2) := by decide +kernel
theorem dX9_prize_60 : decode cX9_prize 60 = .ok (.iload_n 2, 1) := by decide +kernel
theorem dX9_prize_61 : decode cX9_prize 61 = .ok (.ifCond .ne 8, 3) := by decide +kernel
theorem dX9_prize_64 : decode cX9_prize 64 = .ok (.iload 4, 2) := by decide +kernel
theorem dX9_prize_66 : decode cX9_prize 66 = .ok (.goto 17, 3) := by decide +kernel
theorem dX9_prize_69 : decode cX9_prize 69 = .ok (.aload_n 0, 1) := by decide +kernel
theorem dX9_prize_70 : decode cX9_prize 70 = .ok (.getfield 10, 3) := by decide +kernel
theorem dX9_prize_73 : decode cX9_prize 73 = .ok (.getfield 275, 3) := by decide +kernel
theorem dX9_prize_76 : decode cX9_prize 76 = .ok (.iload_n 1, 1) := by decide +kernel
theorem dX9_prize_77 : decode cX9_prize 77 = .ok (.iaload, 1) := by decide +kernel
theorem dX9_prize_78 : decode cX9_prize 78 = .ok (.iload 4, 2) := by decide +kernel
theorem dX9_prize_80 : decode cX9_prize 80 = .ok (.iload_n 3, 1) := by decide +kernel
theorem dX9_prize_81 : decode cX9_prize 81 = .ok (.imul, 1) := by decide +kernel
theorem dX9_prize_82 : decode cX9_prize 82 = .ok (.isub, 1) := by decide +kernel
theorem dX9_prize_83 : decode cX9_prize 83 = .ok (.ireturn, 1) := by decide +kernel
theorem dX9_jackpot_0 : decode cX9_jackpot 0 = .ok (.aload_n 0, 1) := by decide +kernel
theorem dX9_jackpot_1 : decode cX9_jackpot 1 = .ok (.invokevirtual 133, 3) := by decide +kernel
theorem dX9_jackpot_4 : decode cX9_jackpot 4 = .ok (.ifCond .eq 12, 3) := by decide +kernel
theorem dX9_jackpot_7 : decode cX9_jackpot 7 = .ok (.iload_n 1, 1) := by decide +kernel
theorem dX9_jackpot_8 : decode cX9_jackpot 8 = .ok (.ifCond .lt 8, 3) := by decide +kernel
theorem dX9_jackpot_11 : decode cX9_jackpot 11 = .ok (.iload_n 1, 1) := by decide +kernel
theorem dX9_jackpot_12 : decode cX9_jackpot 12 = .ok (.iconst 1, 1) := by decide +kernel
theorem dX9_jackpot_13 : decode cX9_jackpot 13 = .ok (.if_icmp .le 6, 3) := by decide +kernel
theorem dX9_jackpot_16 : decode cX9_jackpot 16 = .ok (.bipush (-2), 2) := by decide +kernel
theorem dX9_jackpot_18 : decode cX9_jackpot 18 = .ok (.ireturn, 1) := by decide +kernel
theorem dX9_jackpot_19 : decode cX9_jackpot 19 = .ok (.aload_n 0, 1) := by decide +kernel
theorem dX9_jackpot_20 : decode cX9_jackpot 20 = .ok (.iconst 2, 1) := by decide +kernel
theorem dX9_jackpot_21 : decode cX9_jackpot 21 = .ok (.aload_n 0, 1) := by decide +kernel
theorem dX9_jackpot_22 : decode cX9_jackpot 22 = .ok (.getfield 10, 3) := by decide +kernel
theorem dX9_jackpot_25 : decode cX9_jackpot 25 = .ok (.getfield 238, 3) := by decide +kernel
theorem dX9_jackpot_28 : decode cX9_jackpot 28 = .ok (.invokevirtual 263, 3) := by decide +kernel
theorem dX9_jackpot_31 : decode cX9_jackpot 31 = .ok (.istore_n 2, 1) := by decide +kernel
theorem dX9_jackpot_32 : decode cX9_jackpot 32 = .ok (.iload_n 1, 1) := by decide +kernel
theorem dX9_jackpot_33 : decode cX9_jackpot 33 = .ok (.ifCond .ne 23, 3) := by decide +kernel
theorem dX9_jackpot_36 : decode cX9_jackpot 36 = .ok (.aload_n 0, 1) := by decide +kernel
theorem dX9_jackpot_37 : decode cX9_jackpot 37 = .ok (.iload_n 2, 1) := by decide +kernel
theorem dX9_jackpot_38 : decode cX9_jackpot 38 = .ok (.invokevirtual 281, 3) := by decide +kernel
theorem dX9_jackpot_41 : decode cX9_jackpot 41 = .ok (.aload_n 0, 1) := by decide +kernel
theorem dX9_jackpot_42 : decode cX9_jackpot 42 = .ok (.iconst 2, 1) := by decide +kernel
theorem dX9_jackpot_43 : decode cX9_jackpot 43 = .ok (.iload_n 2, 1) := by decide +kernel
theorem dX9_jackpot_44 : decode cX9_jackpot 44 = .ok (.aload_n 0, 1) := by decide +kernel
theorem dX9_jackpot_45 : decode cX9_jackpot 45 = .ok (.getfield 10, 3) := by decide +kernel
theorem dX9_jackpot_48 : decode cX9_jackpot 48 = .ok (.getfield 238, 3) := by decide +kernel
theorem dX9_jackpot_51 : decode cX9_jackpot 51 = .ok (.invokevirtual 267, 3) := by decide +kernel
theorem dX9_jackpot_54 : decode cX9_jackpot 54 = .ok (.imul, 1) := by decide +kernel
theorem dX9_jackpot_55 : decode cX9_jackpot 55 = .ok (.ireturn, 1) := by decide +kernel
theorem dX9_jackpot_56 : decode cX9_jackpot 56 = .ok (.aload_n 0, 1) := by decide +kernel
theorem dX9_jackpot_57 : decode cX9_jackpot 57 = .ok (.getfield 10, 3) := by decide +kernel
theorem dX9_jackpot_60 : decode cX9_jackpot 60 = .ok (.getfield 284, 3) := by decide +kernel
theorem dX9_jackpot_63 : decode cX9_jackpot 63 = .ok (.ifCond .eq 8, 3) := by decide +kernel
theorem dX9_jackpot_66 : decode cX9_jackpot 66 = .ok (.iload_n 2, 1) := by decide +kernel
theorem dX9_jackpot_67 : decode cX9_jackpot 67 = .ok (.iconst (-1), 1) := by decide +kernel
theorem dX9_jackpot_68 : decode cX9_jackpot 68 = .ok (.if_icmp .ne 7, 3) := by decide +kernel
theorem dX9_jackpot_71 : decode cX9_jackpot 71 = .ok (.iconst (-1), 1) := by decide +kernel
theorem dX9_jackpot_72 : decode cX9_jackpot 72 = .ok (.goto 16, 3) := by decide +kernel
theorem dX9_jackpot_75 : decode cX9_jackpot 75 = .ok (.iconst 0, 1) := by decide +kernel
theorem dX9_jackpot_76 : decode cX9_jackpot 76 = .ok (.iload_n 2, 1) := by decide +kernel
theorem dX9_jackpot_77 : decode cX9_jackpot 77 = .ok (.aload_n 0, 1) := by decide +kernel
theorem dX9_jackpot_78 : decode cX9_jackpot 78 = .ok (.getfield 10, 3) := by decide +kernel
theorem dX9_jackpot_81 : decode cX9_jackpot 81 = .ok (.getfield 284, 3) := by decide +kernel
theorem dX9_jackpot_84 : decode cX9_jackpot 84 = .ok (.isub, 1) := by decide +kernel
theorem dX9_jackpot_85 : decode cX9_jackpot 85 = .ok (.invokestatic 287, 3) := by decide +kernel
theorem dX9_jackpot_88 : decode cX9_jackpot 88 = .ok (.ireturn, 1) := by decide +kernel
theorem dX9_wins_0 : decode cX9_wins 0 = .ok (.aload_n 0, 1) := by decide +kernel
theorem dX9_wins_1 : decode cX9_wins 1 = .ok (.iload_n 1, 1) := by decide +kernel
theorem dX9_wins_2 : decode cX9_wins 2 = .ok (.invokevirtual 228, 3) := by decide +kernel
theorem dX9_wins_5 : decode cX9_wins 5 = .ok (.ifCond .ne 6, 3) := by decide +kernel
theorem dX9_wins_8 : decode cX9_wins 8 = .ok (.bipush (-2), 2) := by decide +kernel
theorem dX9_wins_10 : decode cX9_wins 10 = .ok (.ireturn, 1) := by decide +kernel
theorem dX9_wins_11 : decode cX9_wins 11 = .ok (.iconst 0, 1) := by decide +kernel
theorem dX9_wins_12 : decode cX9_wins 12 = .ok (.istore_n 2, 1) := by decide +kernel
theorem dX9_wins_13 : decode cX9_wins 13 = .ok (.iconst 0, 1) := by decide +kernel
theorem dX9_wins_14 : decode cX9_wins 14 = .ok (.istore_n 3, 1) := by decide +kernel
theorem dX9_wins_15 : decode cX9_wins 15 = .ok (.iload_n 3, 1) := by decide +kernel
theorem dX9_wins_16 : decode cX9_wins 16 = .ok (.iconst 3, 1) := by decide +kernel
theorem dX9_wins_17 : decode cX9_wins 17 = .ok (.if_icmp .ge 74, 3) := by decide +kernel
theorem dX9_wins_20 : decode cX9_wins 20 = .ok (.aload_n 0, 1) := by decide +kernel
theorem dX9_wins_21 : decode cX9_wins 21 = .ok (.iload_n 3, 1) := by decide +kernel
theorem dX9_wins_22 : decode cX9_wins 22 = .ok (.aload_n 0, 1) := by decide +kernel
theorem dX9_wins_23 : decode cX9_wins 23 = .ok (.getfield 10, 3) := by decide +kernel
theorem dX9_wins_26 : decode cX9_wins 26 = .ok (.getfield 238, 3) := by decide +kernel
theorem dX9_wins_29 : decode cX9_wins 29 = .ok (.invokevirtual 263, 3) := by decide +kernel
theorem dX9_wins_32 : decode cX9_wins 32 = .ok (.istore 4, 2) := by decide +kernel
theorem dX9_wins_34 : decode cX9_wins 34 = .ok (.aload_n 0, 1) := by decide +kernel
theorem dX9_wins_35 : decode cX9_wins 35 = .ok (.iload_n 3, 1) := by decide +kernel
theorem dX9_wins_36 : decode cX9_wins 36 = .ok (.iload 4, 2) := by decide +kernel
theorem dX9_wins_38 : decode cX9_wins 38 = .ok (.invokevirtual 292, 3) := by decide +kernel
theorem dX9_wins_41 : decode cX9_wins 41 = .ok (.istore 5, 2) := by decide +kernel
theorem dX9_wins_43 : decode cX9_wins 43 = .ok (.iconst 0, 1) := by decide +kernel
theorem dX9_wins_44 : decode cX9_wins 44 = .ok (.istore 6, 2) := by decide +kernel
theorem dX9_wins_46 : decode cX9_wins 46 = .ok (.iload 6, 2) := by decide +kernel
theorem dX9_wins_48 : decode cX9_wins 48 = .ok (.aload_n 0, 1) := by decide +kernel
theorem dX9_wins_49 : decode cX9_wins 49 = .ok (.getfield 10, 3) := by decide +kernel
theorem dX9_wins_52 : decode cX9_wins 52 = .ok (.getfield 98, 3) := by decide +kernel
theorem dX9_wins_55 : decode cX9_wins 55 = .ok (.getfield 200, 3) := by decide +kernel
theorem dX9_wins_58 : decode cX9_wins 58 = .ok (.if_icmp .ge 27, 3) := by decide +kernel
theorem dX9_wins_61 : decode cX9_wins 61 = .ok (.aload_n 0, 1) := by decide +kernel
theorem dX9_wins_62 : decode cX9_wins 62 = .ok (.iload_n 1, 1) := by decide +kernel
theorem dX9_wins_63 : decode cX9_wins 63 = .ok (.iload 6, 2) := by decide +kernel
theorem dX9_wins_65 : decode cX9_wins 65 = .ok (.iload_n 3, 1) := by decide +kernel
theorem dX9_wins_66 : decode cX9_wins 66 = .ok (.iload 4, 2) := by decide +kernel
theorem dX9_wins_68 : decode cX9_wins 68 = .ok (.invokevirtual 271, 3) := by decide +kernel
theorem dX9_wins_71 : decode cX9_wins 71 = .ok (.ifCond .eq 8, 3) := by decide +kernel
theorem dX9_wins_74 : decode cX9_wins 74 = .ok (.iload_n 2, 1) := by decide +kernel
theorem dX9_wins_75 : decode cX9_wins 75 = .ok (.iload 5, 2) := by decide +kernel
theorem dX9_wins_77 : decode cX9_wins 77 = .ok (.iadd, 1) := by decide +kernel
theorem dX9_wins_78 : decode cX9_wins 78 = .ok (.istore_n 2, 1) := by decide +kernel
theorem dX9_wins_79 : decode cX9_wins 79 = .ok (.iinc 6 1, 3) := by decide +kernel
theorem dX9_wins_82 : decode cX9_wins 82 = .ok (.goto (-36), 3) := by decide +kernel
theorem dX9_wins_85 : decode cX9_wins 85 = .ok (.iinc 3 1, 3) := by decide +kernel
theorem dX9_wins_88 : decode cX9_wins 88 = .ok (.goto (-73), 3) := by decide +kernel
theorem dX9_wins_91 : decode cX9_wins 91 = .ok (.iload_n 2, 1) := by decide +kernel
theorem dX9_wins_92 : decode cX9_wins 92 = .ok (.ireturn, 1) := by decide +kernel
theorem dX9_wonInAll_0 : decode cX9_wonInAll 0 = .ok (.lconst 0, 1) := by decide +kernel
theorem dX9_wonInAll_1 : decode cX9_wonInAll 1 = .ok (.lstore_n 1, 1) := by decide +kernel
theorem dX9_wonInAll_2 : decode cX9_wonInAll 2 = .ok (.iconst 0, 1) := by decide +kernel
theorem dX9_wonInAll_3 : decode cX9_wonInAll 3 = .ok (.istore_n 3, 1) := by decide +kernel
theorem dX9_wonInAll_4 : decode cX9_wonInAll 4 = .ok (.iload_n 3, 1) := by decide +kernel
theorem dX9_wonInAll_5 : decode cX9_wonInAll 5 = .ok (.iconst 3, 1) := by decide +kernel
theorem dX9_wonInAll_6 : decode cX9_wonInAll 6 = .ok (.if_icmp .ge 50, 3) := by decide +kernel
theorem dX9_wonInAll_9 : decode cX9_wonInAll 9 = .ok (.aload_n 0, 1) := by decide +kernel
theorem dX9_wonInAll_10 : decode cX9_wonInAll 10 = .ok (.iload_n 3, 1) := by decide +kernel
theorem dX9_wonInAll_11 : decode cX9_wonInAll 11 = .ok (.aload_n 0, 1) := by decide +kernel
theorem dX9_wonInAll_12 : decode cX9_wonInAll 12 = .ok (.getfield 10, 3) := by decide +kernel
theorem dX9_wonInAll_15 : decode cX9_wonInAll 15 = .ok (.getfield 238, 3) := by decide +kernel
theorem dX9_wonInAll_18 : decode cX9_wonInAll 18 = .ok (.invokevirtual 263, 3) := by decide +kernel
theorem dX9_wonInAll_21 : decode cX9_wonInAll 21 = .ok (.istore 4, 2) := by decide +kernel
theorem dX9_wonInAll_23 : decode cX9_wonInAll 23 = .ok (.lload_n 1, 1) := by decide +kernel
theorem dX9_wonInAll_24 : decode cX9_wonInAll 24 = .ok (.aload_n 0, 1) := by decide +kernel
theorem dX9_wonInAll_25 : decode cX9_wonInAll 25 = .ok (.iload_n 3, 1) := by decide +kernel
theorem dX9_wonInAll_26 : decode cX9_wonInAll 26 = .ok (.iload 4, 2) := by decide +kernel
theorem dX9_wonInAll_28 : decode cX9_wonInAll 28 = .ok (.invokevirtual 292, 3) := by decide +kernel
theorem dX9_wonInAll_31 : decode cX9_wonInAll 31 = .ok (.i2l, 1) := by decide +kernel
theorem dX9_wonInAll_32 : decode cX9_wonInAll 32 = .ok (.aload_n 0, 1) := by decide +kernel
theorem dX9_wonInAll_33 : decode cX9_wonInAll 33 = .ok (.iload_n 3, 1) := by decide +kernel
theorem dX9_wonInAll_34 : decode cX9_wonInAll 34 = .ok (.iload 4, 2) := by decide +kernel
theorem dX9_wonInAll_36 : decode cX9_wonInAll 36 = .ok (.aload_n 0, 1) := by decide +kernel
theorem dX9_wonInAll_37 : decode cX9_wonInAll 37 = .ok (.getfield 10, 3) := by decide +kernel
theorem dX9_wonInAll_40 : decode cX9_wonInAll 40 = .ok (.getfield 238, 3) := by decide +kernel
theorem dX9_wonInAll_43 : decode cX9_wonInAll 43 = .ok (.invokevirtual 267, 3) := by decide +kernel
theorem dX9_wonInAll_46 : decode cX9_wonInAll 46 = .ok (.i2l, 1) := by decide +kernel
theorem dX9_wonInAll_47 : decode cX9_wonInAll 47 = .ok (.lmul, 1) := by decide +kernel
theorem dX9_wonInAll_48 : decode cX9_wonInAll 48 = .ok (.ladd, 1) := by decide +kernel
theorem dX9_wonInAll_49 : decode cX9_wonInAll 49 = .ok (.lstore_n 1, 1) := by decide +kernel
theorem dX9_wonInAll_50 : decode cX9_wonInAll 50 = .ok (.iinc 3 1, 3) := by decide +kernel
theorem dX9_wonInAll_53 : decode cX9_wonInAll 53 = .ok (.goto (-49), 3) := by decide +kernel
theorem dX9_wonInAll_56 : decode cX9_wonInAll 56 = .ok (.lload_n 1, 1) := by decide +kernel
theorem dX9_wonInAll_57 : decode cX9_wonInAll 57 = .ok (.lreturn, 1) := by decide +kernel
theorem dX9_winnerPart_0 : decode cX9_winnerPart 0 = .ok (.aload_n 0, 1) := by decide +kernel
theorem dX9_winnerPart_1 : decode cX9_winnerPart 1 = .ok (.getfield 10, 3) := by decide +kernel
theorem dX9_winnerPart_4 : decode cX9_winnerPart 4 = .ok (.getfield 275, 3) := by decide +kernel
theorem dX9_winnerPart_7 : decode cX9_winnerPart 7 = .ok (.iload_n 1, 1) := by decide +kernel
theorem dX9_winnerPart_8 : decode cX9_winnerPart 8 = .ok (.iaload, 1) := by decide +kernel
theorem dX9_winnerPart_9 : decode cX9_winnerPart 9 = .ok (.aload_n 0, 1) := by decide +kernel
theorem dX9_winnerPart_10 : decode cX9_winnerPart 10 = .ok (.iload_n 1, 1) := by decide +kernel
theorem dX9_winnerPart_11 : decode cX9_winnerPart 11 = .ok (.iload_n 2, 1) := by decide +kernel
theorem dX9_winnerPart_12 : decode cX9_winnerPart 12 = .ok (.aload_n 0, 1) := by decide +kernel
theorem dX9_winnerPart_13 : decode cX9_winnerPart 13 = .ok (.getfield 10, 3) := by decide +kernel
theorem dX9_winnerPart_16 : decode cX9_winnerPart 16 = .ok (.getfield 238, 3) := by decide +kernel
theorem dX9_winnerPart_19 : decode cX9_winnerPart 19 = .ok (.invokevirtual 267, 3) := by decide +kernel
theorem dX9_winnerPart_22 : decode cX9_winnerPart 22 = .ok (.invokestatic 278, 3) := by decide +kernel
theorem dX9_winnerPart_25 : decode cX9_winnerPart 25 = .ok (.istore_n 3, 1) := by decide +kernel
theorem dX9_winnerPart_26 : decode cX9_winnerPart 26 = .ok (.iload_n 1, 1) := by decide +kernel
theorem dX9_winnerPart_27 : decode cX9_winnerPart 27 = .ok (.iconst 2, 1) := by decide +kernel
theorem dX9_winnerPart_28 : decode cX9_winnerPart 28 = .ok (.if_icmp .ne 13, 3) := by decide +kernel
theorem dX9_winnerPart_31 : decode cX9_winnerPart 31 = .ok (.iload_n 3, 1) := by decide +kernel
theorem dX9_winnerPart_32 : decode cX9_winnerPart 32 = .ok (.aload_n 0, 1) := by decide +kernel
theorem dX9_winnerPart_33 : decode cX9_winnerPart 33 = .ok (.iload_n 2, 1) := by decide +kernel
theorem dX9_winnerPart_34 : decode cX9_winnerPart 34 = .ok (.invokevirtual 281, 3) := by decide +kernel
theorem dX9_winnerPart_37 : decode cX9_winnerPart 37 = .ok (.iadd, 1) := by decide +kernel
theorem dX9_winnerPart_38 : decode cX9_winnerPart 38 = .ok (.goto 4, 3) := by decide +kernel
theorem dX9_winnerPart_41 : decode cX9_winnerPart 41 = .ok (.iload_n 3, 1) := by decide +kernel
theorem dX9_winnerPart_42 : decode cX9_winnerPart 42 = .ok (.ireturn, 1) := by decide +kernel
theorem dX9_jackpotPart_0 : decode cX9_jackpotPart 0 = .ok (.iload_n 1, 1) := by decide +kernel
theorem dX9_jackpotPart_1 : decode cX9_jackpotPart 1 = .ok (.iconst (-1), 1) := by decide +kernel
theorem dX9_jackpotPart_2 : decode cX9_jackpotPart 2 = .ok (.if_icmp .eq 14, 3) := by decide +kernel
theorem dX9_jackpotPart_5 : decode cX9_jackpotPart 5 = .ok (.iload_n 1, 1) := by decide +kernel
theorem dX9_jackpotPart_6 : decode cX9_jackpotPart 6 = .ok (.aload_n 0, 1) := by decide +kernel
theorem dX9_jackpotPart_7 : decode cX9_jackpotPart 7 = .ok (.getfield 10, 3) := by decide +kernel
theorem dX9_jackpotPart_10 : decode cX9_jackpotPart 10 = .ok (.getfield 284, 3) := by decide +kernel
theorem dX9_jackpotPart_13 : decode cX9_jackpotPart 13 = .ok (.if_icmp .le 5, 3) := by decide +kernel
theorem dX9_jackpotPart_16 : decode cX9_jackpotPart 16 = .ok (.iconst 0, 1) := by decide +kernel
theorem dX9_jackpotPart_17 : decode cX9_jackpotPart 17 = .ok (.ireturn, 1) := by decide +kernel
theorem dX9_jackpotPart_18 : decode cX9_jackpotPart 18 = .ok (.aload_n 0, 1) := by decide +kernel
theorem dX9_jackpotPart_19 : decode cX9_jackpotPart 19 = .ok (.getfield 10, 3) := by decide +kernel
theorem dX9_jackpotPart_22 : decode cX9_jackpotPart 22 = .ok (.getfield 295, 3) := by decide +kernel
theorem dX9_jackpotPart_25 : decode cX9_jackpotPart 25 = .ok (.aload_n 0, 1) := by decide +kernel
theorem dX9_jackpotPart_26 : decode cX9_jackpotPart 26 = .ok (.iconst 2, 1) := by decide +kernel
theorem dX9_jackpotPart_27 : decode cX9_jackpotPart 27 = .ok (.iload_n 1, 1) := by decide +kernel
theorem dX9_jackpotPart_28 : decode cX9_jackpotPart 28 = .ok (.aload_n 0, 1) := by decide +kernel
theorem dX9_jackpotPart_29 : decode cX9_jackpotPart 29 = .ok (.getfield 10, 3) := by decide +kernel
theorem dX9_jackpotPart_32 : decode cX9_jackpotPart 32 = .ok (.getfield 238, 3) := by decide +kernel
theorem dX9_jackpotPart_35 : decode cX9_jackpotPart 35 = .ok (.invokevirtual 267, 3) := by decide +kernel
theorem dX9_jackpotPart_38 : decode cX9_jackpotPart 38 = .ok (.invokestatic 278, 3) := by decide +kernel
theorem dX9_jackpotPart_41 : decode cX9_jackpotPart 41 = .ok (.ireturn, 1) := by decide +kernel
theorem dX9_partOf_0 : decode cX9_partOf 0 = .ok (.iload_n 1, 1) := by decide +kernel
theorem dX9_partOf_1 : decode cX9_partOf 1 = .ok (.iconst 1, 1) := by decide +kernel
theorem dX9_partOf_2 : decode cX9_partOf 2 = .ok (.if_icmp .ge 7, 3) := by decide +kernel
theorem dX9_partOf_5 : decode cX9_partOf 5 = .ok (.iconst 0, 1) := by decide +kernel
theorem dX9_partOf_6 : decode cX9_partOf 6 = .ok (.goto 6, 3) := by decide +kernel
theorem dX9_partOf_9 : decode cX9_partOf 9 = .ok (.iload_n 0, 1) := by decide +kernel
theorem dX9_partOf_10 : decode cX9_partOf 10 = .ok (.iload_n 1, 1) := by decide +kernel
theorem dX9_partOf_11 : decode cX9_partOf 11 = .ok (.idiv, 1) := by decide +kernel
theorem dX9_partOf_12 : decode cX9_partOf 12 = .ok (.ireturn, 1) := by decide +kernel
theorem dX9_firstTurn_0 : decode cX9_firstTurn 0 = .ok (.iconst (-1), 1) := by decide +kernel
theorem dX9_firstTurn_1 : decode cX9_firstTurn 1 = .ok (.istore_n 3, 1) := by decide +kernel
theorem dX9_firstTurn_2 : decode cX9_firstTurn 2 = .ok (.iconst 0, 1) := by decide +kernel
theorem dX9_firstTurn_3 : decode cX9_firstTurn 3 = .ok (.istore 4, 2) := by decide +kernel
theorem dX9_firstTurn_5 : decode cX9_firstTurn 5 = .ok (.iload 4, 2) := by decide +kernel
theorem dX9_firstTurn_7 : decode cX9_firstTurn 7 = .ok (.aload_n 0, 1) := by decide +kernel
theorem dX9_firstTurn_8 : decode cX9_firstTurn 8 = .ok (.getfield 10, 3) := by decide +kernel
theorem dX9_firstTurn_11 : decode cX9_firstTurn 11 = .ok (.getfield 217, 3) := by decide +kernel
theorem dX9_firstTurn_14 : decode cX9_firstTurn 14 = .ok (.if_icmp .ge 39, 3) := by decide +kernel
theorem dX9_firstTurn_17 : decode cX9_firstTurn 17 = .ok (.aload_n 0, 1) := by decide +kernel
theorem dX9_firstTurn_18 : decode cX9_firstTurn 18 = .ok (.iload 4, 2) := by decide +kernel
theorem dX9_firstTurn_20 : decode cX9_firstTurn 20 = .ok (.iload_n 1, 1) := by decide +kernel
theorem dX9_firstTurn_21 : decode cX9_firstTurn 21 = .ok (.aload_n 2, 1) := by decide +kernel
theorem dX9_firstTurn_22 : decode cX9_firstTurn 22 = .ok (.invokevirtual 298, 3) := by decide +kernel
theorem dX9_firstTurn_25 : decode cX9_firstTurn 25 = .ok (.istore 5, 2) := by decide +kernel
theorem dX9_firstTurn_27 : decode cX9_firstTurn 27 = .ok (.iload 5, 2) := by decide +kernel
theorem dX9_firstTurn_29 : decode cX9_firstTurn 29 = .ok (.iconst (-1), 1) := by decide +kernel
theorem dX9_firstTurn_30 : decode cX9_firstTurn 30 = .ok (.if_icmp .eq 17, 3) := by decide +kernel
theorem dX9_firstTurn_33 : decode cX9_firstTurn 33 = .ok (.iload_n 3, 1) := by decide +kernel
theorem dX9_firstTurn_34 : decode cX9_firstTurn 34 = .ok (.iconst (-1), 1) := by decide +kernel
theorem dX9_firstTurn_35 : decode cX9_firstTurn 35 = .ok (.if_icmp .eq 9, 3) := by decide +kernel
theorem dX9_firstTurn_38 : decode cX9_firstTurn 38 = .ok (.iload 5, 2) := by decide +kernel
theorem dX9_firstTurn_40 : decode cX9_firstTurn 40 = .ok (.iload_n 3, 1) := by decide +kernel
theorem dX9_firstTurn_41 : decode cX9_firstTurn 41 = .ok (.if_icmp .ge 6, 3) := by decide +kernel
theorem dX9_firstTurn_44 : decode cX9_firstTurn 44 = .ok (.iload 5, 2) := by decide +kernel
theorem dX9_firstTurn_46 : decode cX9_firstTurn 46 = .ok (.istore_n 3, 1) := by decide +kernel
theorem dX9_firstTurn_47 : decode cX9_firstTurn 47 = .ok (.iinc 4 1, 3) := by decide +kernel
theorem dX9_firstTurn_50 : decode cX9_firstTurn 50 = .ok (.goto (-45), 3) := by decide +kernel
theorem dX9_firstTurn_53 : decode cX9_firstTurn 53 = .ok (.iload_n 3, 1) := by decide +kernel
theorem dX9_firstTurn_54 : decode cX9_firstTurn 54 = .ok (.ireturn, 1) := by decide +kernel
theorem dX9_firstTurnOf_0 : decode cX9_firstTurnOf 0 = .ok (.iconst (-1), 1) := by decide +kernel
theorem dX9_firstTurnOf_1 : decode cX9_firstTurnOf 1 = .ok (.istore 4, 2) := by decide +kernel
theorem dX9_firstTurnOf_3 : decode cX9_firstTurnOf 3 = .ok (.iconst 0, 1) := by decide +kernel
theorem dX9_firstTurnOf_4 : decode cX9_firstTurnOf 4 = .ok (.istore 5, 2) := by decide +kernel
theorem dX9_firstTurnOf_6 : decode cX9_firstTurnOf 6 = .ok (.iload 5, 2) := by decide +kernel
theorem dX9_firstTurnOf_8 : decode cX9_firstTurnOf 8 = .ok (.aload_n 0, 1) := by decide +kernel
theorem dX9_firstTurnOf_9 : decode cX9_firstTurnOf 9 = .ok (.getfield 10, 3) := by decide +kernel
theorem dX9_firstTurnOf_12 : decode cX9_firstTurnOf 12 = .ok (.getfield 98, 3) := by decide +kernel
theorem dX9_firstTurnOf_15 : decode cX9_firstTurnOf 15 = .ok (.getfield 200, 3) := by decide +kernel
theorem dX9_firstTurnOf_18 : decode cX9_firstTurnOf 18 = .ok (.if_icmp .ge 46, 3) := by decide +kernel
theorem dX9_firstTurnOf_21 : decode cX9_firstTurnOf 21 = .ok (.aload_n 0, 1) := by decide +kernel
theorem dX9_firstTurnOf_22 : decode cX9_firstTurnOf 22 = .ok (.iload_n 1, 1) := by decide +kernel
theorem dX9_firstTurnOf_23 : decode cX9_firstTurnOf 23 = .ok (.iload 5, 2) := by decide +kernel
theorem dX9_firstTurnOf_25 : decode cX9_firstTurnOf 25 = .ok (.aload_n 3, 1) := by decide +kernel
theorem dX9_firstTurnOf_26 : decode cX9_firstTurnOf 26 = .ok (.invokevirtual 301, 3) := by decide +kernel
theorem dX9_firstTurnOf_29 : decode cX9_firstTurnOf 29 = .ok (.iload_n 2, 1) := by decide +kernel
theorem dX9_firstTurnOf_30 : decode cX9_firstTurnOf 30 = .ok (.invokevirtual 260, 3) := by decide +kernel
theorem dX9_firstTurnOf_33 : decode cX9_firstTurnOf 33 = .ok (.istore 6, 2) := by decide +kernel
theorem dX9_firstTurnOf_35 : decode cX9_firstTurnOf 35 = .ok (.iload 6, 2) := by decide +kernel
theorem dX9_firstTurnOf_37 : decode cX9_firstTurnOf 37 = .ok (.iconst (-1), 1) := by decide +kernel
theorem dX9_firstTurnOf_38 : decode cX9_firstTurnOf 38 = .ok (.if_icmp .eq 20, 3) := by decide +kernel
theorem dX9_firstTurnOf_41 : decode cX9_firstTurnOf 41 = .ok (.iload 4, 2) := by decide +kernel
theorem dX9_firstTurnOf_43 : decode cX9_firstTurnOf 43 = .ok (.iconst (-1), 1) := by decide +kernel
theorem dX9_firstTurnOf_44 : decode cX9_firstTurnOf 44 = .ok (.if_icmp .eq 10, 3) := by decide +kernel
theorem dX9_firstTurnOf_47 : decode cX9_firstTurnOf 47 = .ok (.iload 6, 2) := by decide +kernel
theorem dX9_firstTurnOf_49 : decode cX9_firstTurnOf 49 = .ok (.iload 4, 2) := by decide +kernel
theorem dX9_firstTurnOf_51 : decode cX9_firstTurnOf 51 = .ok (.if_icmp .ge 7, 3) := by decide +kernel
theorem dX9_firstTurnOf_54 : decode cX9_firstTurnOf 54 = .ok (.iload 6, 2) := by decide +kernel
theorem dX9_firstTurnOf_56 : decode cX9_firstTurnOf 56 = .ok (.istore 4, 2) := by decide +kernel
theorem dX9_firstTurnOf_58 : decode cX9_firstTurnOf 58 = .ok (.iinc 5 1, 3) := by decide +kernel
theorem dX9_firstTurnOf_61 : decode cX9_firstTurnOf 61 = .ok (.goto (-55), 3) := by decide +kernel
theorem dX9_firstTurnOf_64 : decode cX9_firstTurnOf 64 = .ok (.iload 4, 2) := by decide +kernel
theorem dX9_firstTurnOf_66 : decode cX9_firstTurnOf 66 = .ok (.ireturn, 1) := by decide +kernel
theorem dX9_winnersAt_0 : decode cX9_winnersAt 0 = .ok (.iconst 0, 1) := by decide +kernel
theorem dX9_winnersAt_1 : decode cX9_winnersAt 1 = .ok (.istore 4, 2) := by decide +kernel
theorem dX9_winnersAt_3 : decode cX9_winnersAt 3 = .ok (.iconst 0, 1) := by decide +kernel
theorem dX9_winnersAt_4 : decode cX9_winnersAt 4 = .ok (.istore 5, 2) := by decide +kernel
theorem dX9_winnersAt_6 : decode cX9_winnersAt 6 = .ok (.iload 5, 2) := by decide +kernel
theorem dX9_winnersAt_8 : decode cX9_winnersAt 8 = .ok (.aload_n 0, 1) := by decide +kernel
theorem dX9_winnersAt_9 : decode cX9_winnersAt 9 = .ok (.getfield 10, 3) := by decide +kernel
theorem dX9_winnersAt_12 : decode cX9_winnersAt 12 = .ok (.getfield 217, 3) := by decide +kernel
theorem dX9_winnersAt_15 : decode cX9_winnersAt 15 = .ok (.if_icmp .ge 58, 3) := by decide +kernel
theorem dX9_winnersAt_18 : decode cX9_winnersAt 18 = .ok (.iload_n 2, 1) := by decide +kernel
theorem dX9_winnersAt_19 : decode cX9_winnersAt 19 = .ok (.iconst (-1), 1) := by decide +kernel
theorem dX9_winnersAt_20 : decode cX9_winnersAt 20 = .ok (.if_icmp .eq 53, 3) := by decide +kernel
theorem dX9_winnersAt_23 : decode cX9_winnersAt 23 = .ok (.iconst 0, 1) := by decide +kernel
theorem dX9_winnersAt_24 : decode cX9_winnersAt 24 = .ok (.istore 6, 2) := by decide +kernel
theorem dX9_winnersAt_26 : decode cX9_winnersAt 26 = .ok (.iload 6, 2) := by decide +kernel
theorem dX9_winnersAt_28 : decode cX9_winnersAt 28 = .ok (.aload_n 0, 1) := by decide +kernel
theorem dX9_winnersAt_29 : decode cX9_winnersAt 29 = .ok (.getfield 10, 3) := by decide +kernel
theorem dX9_winnersAt_32 : decode cX9_winnersAt 32 = .ok (.getfield 98, 3) := by decide +kernel
theorem dX9_winnersAt_35 : decode cX9_winnersAt 35 = .ok (.getfield 200, 3) := by decide +kernel
theorem dX9_winnersAt_38 : decode cX9_winnersAt 38 = .ok (.if_icmp .ge 29, 3) := by decide +kernel
theorem dX9_winnersAt_41 : decode cX9_winnersAt 41 = .ok (.aload_n 0, 1) := by decide +kernel
theorem dX9_winnersAt_42 : decode cX9_winnersAt 42 = .ok (.iload 5, 2) := by decide +kernel
theorem dX9_winnersAt_44 : decode cX9_winnersAt 44 = .ok (.iload 6, 2) := by decide +kernel
theorem dX9_winnersAt_46 : decode cX9_winnersAt 46 = .ok (.aload_n 3, 1) := by decide +kernel
theorem dX9_winnersAt_47 : decode cX9_winnersAt 47 = .ok (.invokevirtual 301, 3) := by decide +kernel
theorem dX9_winnersAt_50 : decode cX9_winnersAt 50 = .ok (.iload_n 1, 1) := by decide +kernel
theorem dX9_winnersAt_51 : decode cX9_winnersAt 51 = .ok (.invokevirtual 260, 3) := by decide +kernel
theorem dX9_winnersAt_54 : decode cX9_winnersAt 54 = .ok (.iload_n 2, 1) := by decide +kernel
theorem dX9_winnersAt_55 : decode cX9_winnersAt 55 = .ok (.if_icmp .ne 6, 3) := by decide +kernel
theorem dX9_winnersAt_58 : decode cX9_winnersAt 58 = .ok (.iinc 4 1, 3) := by decide +kernel
theorem dX9_winnersAt_61 : decode cX9_winnersAt 61 = .ok (.iinc 6 1, 3) := by decide +kernel
theorem dX9_winnersAt_64 : decode cX9_winnersAt 64 = .ok (.goto (-38), 3) := by decide +kernel
theorem dX9_winnersAt_67 : decode cX9_winnersAt 67 = .ok (.iinc 5 1, 3) := by decide +kernel
theorem dX9_winnersAt_70 : decode cX9_winnersAt 70 = .ok (.goto (-64), 3) := by decide +kernel
theorem dX9_winnersAt_73 : decode cX9_winnersAt 73 = .ok (.iload 4, 2) := by decide +kernel
theorem dX9_winnersAt_75 : decode cX9_winnersAt 75 = .ok (.ireturn, 1) := by decide +kernel
theorem dX9_hasFirst_0 : decode cX9_hasFirst 0 = .ok (.iload 4, 2) := by decide +kernel
theorem dX9_hasFirst_2 : decode cX9_hasFirst 2 = .ok (.iconst (-1), 1) := by decide +kernel
theorem dX9_hasFirst_3 : decode cX9_hasFirst 3 = .ok (.if_icmp .eq 29, 3) := by decide +kernel
theorem dX9_hasFirst_6 : decode cX9_hasFirst 6 = .ok (.aload_n 0, 1) := by decide +kernel
theorem dX9_hasFirst_7 : decode cX9_hasFirst 7 = .ok (.iload_n 1, 1) := by decide +kernel
theorem dX9_hasFirst_8 : decode cX9_hasFirst 8 = .ok (.iload_n 2, 1) := by decide +kernel
theorem dX9_hasFirst_9 : decode cX9_hasFirst 9 = .ok (.aload_n 0, 1) := by decide +kernel
theorem dX9_hasFirst_10 : decode cX9_hasFirst 10 = .ok (.getfield 10, 3) := by decide +kernel
theorem dX9_hasFirst_13 : decode cX9_hasFirst 13 = .ok (.getfield 238, 3) := by decide +kernel
theorem dX9_hasFirst_16 : decode cX9_hasFirst 16 = .ok (.invokevirtual 301, 3) := by decide +kernel
theorem dX9_hasFirst_19 : decode cX9_hasFirst 19 = .ok (.iload_n 3, 1) := by decide +kernel
theorem dX9_hasFirst_20 : decode cX9_hasFirst 20 = .ok (.invokevirtual 260, 3) := by decide +kernel
theorem dX9_hasFirst_23 : decode cX9_hasFirst 23 = .ok (.iload 4, 2) := by decide +kernel
theorem dX9_hasFirst_25 : decode cX9_hasFirst 25 = .ok (.if_icmp .ne 7, 3) := by decide +kernel
theorem dX9_hasFirst_28 : decode cX9_hasFirst 28 = .ok (.iconst 1, 1) := by decide +kernel
theorem dX9_hasFirst_29 : decode cX9_hasFirst 29 = .ok (.goto 4, 3) := by decide +kernel
theorem dX9_hasFirst_32 : decode cX9_hasFirst 32 = .ok (.iconst 0, 1) := by decide +kernel
theorem dX9_hasFirst_33 : decode cX9_hasFirst 33 = .ok (.ireturn, 1) := by decide +kernel
theorem dX9_book_0 : decode cX9_book 0 = .ok (.aload_n 0, 1) := by decide +kernel
theorem dX9_book_1 : decode cX9_book 1 = .ok (.iload_n 1, 1) := by decide +kernel
theorem dX9_book_2 : decode cX9_book 2 = .ok (.invokevirtual 183, 3) := by decide +kernel
theorem dX9_book_5 : decode cX9_book 5 = .ok (.ifCond .ne 6, 3) := by decide +kernel
theorem dX9_book_8 : decode cX9_book 8 = .ok (.bipush (-2), 2) := by decide +kernel
theorem dX9_book_10 : decode cX9_book 10 = .ok (.ireturn, 1) := by decide +kernel
theorem dX9_book_11 : decode cX9_book 11 = .ok (.iconst 0, 1) := by decide +kernel
theorem dX9_book_12 : decode cX9_book 12 = .ok (.istore_n 3, 1) := by decide +kernel
theorem dX9_book_13 : decode cX9_book 13 = .ok (.iload_n 1, 1) := by decide +kernel
theorem dX9_book_14 : decode cX9_book 14 = .ok (.bipush 40, 2) := by decide +kernel
theorem dX9_book_16 : decode cX9_book 16 = .ok (.iadd, 1) := by decide +kernel
theorem dX9_book_17 : decode cX9_book 17 = .ok (.iconst 1, 1) := by decide +kernel
theorem dX9_book_18 : decode cX9_book 18 = .ok (.isub, 1) := by decide +kernel
theorem dX9_book_19 : decode cX9_book 19 = .ok (.sipush 9999, 3) := by decide +kernel
theorem dX9_book_22 : decode cX9_book 22 = .ok (.invokestatic 305, 3) := by decide +kernel
theorem dX9_book_25 : decode cX9_book 25 = .ok (.istore 4, 2) := by decide +kernel
theorem dX9_book_27 : decode cX9_book 27 = .ok (.iload_n 1, 1) := by decide +kernel
theorem dX9_book_28 : decode cX9_book 28 = .ok (.istore 5, 2) := by decide +kernel
theorem dX9_book_30 : decode cX9_book 30 = .ok (.iload 5, 2) := by decide +kernel
theorem dX9_book_32 : decode cX9_book 32 = .ok (.iload 4, 2) := by decide +kernel
theorem dX9_book_34 : decode cX9_book 34 = .ok (.if_icmp .gt 61, 3) := by decide +kernel
theorem dX9_book_37 : decode cX9_book 37 = .ok (.iload_n 3, 1) := by decide +kernel
theorem dX9_book_38 : decode cX9_book 38 = .ok (.iload_n 2, 1) := by decide +kernel
theorem dX9_book_39 : decode cX9_book 39 = .ok (.if_icmp .gt 56, 3) := by decide +kernel
theorem dX9_book_42 : decode cX9_book 42 = .ok (.iload_n 3, 1) := by decide +kernel
theorem dX9_book_43 : decode cX9_book 43 = .ok (.bipush 40, 2) := by decide +kernel
theorem dX9_book_45 : decode cX9_book 45 = .ok (.if_icmp .ge 50, 3) := by decide +kernel
theorem dX9_book_48 : decode cX9_book 48 = .ok (.aload_n 0, 1) := by decide +kernel
theorem dX9_book_49 : decode cX9_book 49 = .ok (.getfield 30, 3) := by decide +kernel
theorem dX9_book_52 : decode cX9_book 52 = .ok (.aload_n 0, 1) := by decide +kernel
theorem dX9_book_53 : decode cX9_book 53 = .ok (.getfield 10, 3) := by decide +kernel
theorem dX9_book_56 : decode cX9_book 56 = .ok (.getfield 98, 3) := by decide +kernel
theorem dX9_book_59 : decode cX9_book 59 = .ok (.iload 5, 2) := by decide +kernel
theorem dX9_book_61 : decode cX9_book 61 = .ok (.aload_n 0, 1) := by decide +kernel
theorem dX9_book_62 : decode cX9_book 62 = .ok (.getfield 64, 3) := by decide +kernel
theorem dX9_book_65 : decode cX9_book 65 = .ok (.iload_n 3, 1) := by decide +kernel
theorem dX9_book_66 : decode cX9_book 66 = .ok (.aaload, 1) := by decide +kernel
theorem dX9_book_67 : decode cX9_book 67 = .ok (.invokevirtual 190, 3) := by decide +kernel
theorem dX9_book_70 : decode cX9_book 70 = .ok (.aload_n 0, 1) := by decide +kernel
theorem dX9_book_71 : decode cX9_book 71 = .ok (.iload_n 3, 1) := by decide +kernel
theorem dX9_book_72 : decode cX9_book 72 = .ok (.invokevirtual 308, 3) := by decide +kernel
theorem dX9_book_75 : decode cX9_book 75 = .ok (.ifCond .eq 14, 3) := by decide +kernel
theorem dX9_book_78 : decode cX9_book 78 = .ok (.aload_n 0, 1) := by decide +kernel
theorem dX9_book_79 : decode cX9_book 79 = .ok (.getfield 67, 3) := by decide +kernel
theorem dX9_book_82 : decode cX9_book 82 = .ok (.iload_n 3, 1) := by decide +kernel
theorem dX9_book_83 : decode cX9_book 83 = .ok (.iload 5, 2) := by decide +kernel
theorem dX9_book_85 : decode cX9_book 85 = .ok (.iastore, 1) := by decide +kernel
theorem dX9_book_86 : decode cX9_book 86 = .ok (.iinc 3 1, 3) := by decide +kernel
theorem dX9_book_89 : decode cX9_book 89 = .ok (.iinc 5 1, 3) := by decide +kernel
theorem dX9_book_92 : decode cX9_book 92 = .ok (.goto (-62), 3) := by decide +kernel
theorem dX9_book_95 : decode cX9_book 95 = .ok (.iload_n 2, 1) := by decide +kernel
theorem dX9_book_96 : decode cX9_book 96 = .ok (.ifCond .lt 17, 3) := by decide +kernel
theorem dX9_book_99 : decode cX9_book 99 = .ok (.iload_n 2, 1) := by decide +kernel
theorem dX9_book_100 : decode cX9_book 100 = .ok (.iload_n 3, 1) := by decide +kernel
theorem dX9_book_101 : decode cX9_book 101 = .ok (.if_icmp .ge 12, 3) := by decide +kernel
theorem dX9_book_104 : decode cX9_book 104 = .ok (.aload_n 0, 1) := by decide +kernel
theorem dX9_book_105 : decode cX9_book 105 = .ok (.getfield 67, 3) := by decide +kernel
theorem dX9_book_108 : decode cX9_book 108 = .ok (.iload_n 2, 1) := by decide +kernel
theorem dX9_book_109 : decode cX9_book 109 = .ok (.iaload, 1) := by decide +kernel
theorem dX9_book_110 : decode cX9_book 110 = .ok (.goto 4, 3) := by decide +kernel
theorem dX9_book_113 : decode cX9_book 113 = .ok (.iconst (-1), 1) := by decide +kernel
theorem dX9_book_114 : decode cX9_book 114 = .ok (.ireturn, 1) := by decide +kernel
theorem dX9_isUnlikeAhead_0 : decode cX9_isUnlikeAhead 0 = .ok (.iconst 0, 1) := by decide +kernel
theorem dX9_isUnlikeAhead_1 : decode cX9_isUnlikeAhead 1 = .ok (.istore_n 2, 1) := by decide +kernel
theorem dX9_isUnlikeAhead_2 : decode cX9_isUnlikeAhead 2 = .ok (.iload_n 2, 1) := by decide +kernel
theorem dX9_isUnlikeAhead_3 : decode cX9_isUnlikeAhead 3 = .ok (.iload_n 1, 1) := by decide +kernel
theorem dX9_isUnlikeAhead_4 : decode cX9_isUnlikeAhead 4 = .ok (.if_icmp .ge 29, 3) := by decide +kernel
theorem dX9_isUnlikeAhead_7 : decode cX9_isUnlikeAhead 7 = .ok (.aload_n 0, 1) := by decide +kernel
theorem dX9_isUnlikeAhead_8 : decode cX9_isUnlikeAhead 8 = .ok (.getfield 64, 3) := by decide +kernel
theorem dX9_isUnlikeAhead_11 : decode cX9_isUnlikeAhead 11 = .ok (.iload_n 2, 1) := by decide +kernel
theorem dX9_isUnlikeAhead_12 : decode cX9_isUnlikeAhead 12 = .ok (.aaload, 1) := by decide +kernel
theorem dX9_isUnlikeAhead_13 : decode cX9_isUnlikeAhead 13 = .ok (.aload_n 0, 1) := by decide +kernel
theorem dX9_isUnlikeAhead_14 : decode cX9_isUnlikeAhead 14 = .ok (.getfield 64, 3) := by decide +kernel
theorem dX9_isUnlikeAhead_17 : decode cX9_isUnlikeAhead 17 = .ok (.iload_n 1, 1) := by decide +kernel
theorem dX9_isUnlikeAhead_18 : decode cX9_isUnlikeAhead 18 = .ok (.aaload, 1) := by decide +kernel
theorem dX9_isUnlikeAhead_19 : decode cX9_isUnlikeAhead 19 = .ok (.invokestatic 203, 3) := by decide +kernel
theorem dX9_isUnlikeAhead_22 : decode cX9_isUnlikeAhead 22 = .ok (.ifCond .eq 5, 3) := by decide +kernel
theorem dX9_isUnlikeAhead_25 : decode cX9_isUnlikeAhead 25 = .ok (.iconst 0, 1) := by decide +kernel
theorem dX9_isUnlikeAhead_26 : decode cX9_isUnlikeAhead 26 = .ok (.ireturn, 1) := by decide +kernel
theorem dX9_isUnlikeAhead_27 : decode cX9_isUnlikeAhead 27 = .ok (.iinc 2 1, 3) := by decide +kernel
theorem dX9_isUnlikeAhead_30 : decode cX9_isUnlikeAhead 30 = .ok (.goto (-28), 3) := by decide +kernel
theorem dX9_isUnlikeAhead_33 : decode cX9_isUnlikeAhead 33 = .ok (.iconst 1, 1) := by decide +kernel
theorem dX9_isUnlikeAhead_34 : decode cX9_isUnlikeAhead 34 = .ok (.ireturn, 1) := by decide +kernel
theorem dX9_shaped_0 : decode cX9_shaped 0 = .ok (.aload_n 0, 1) := by decide +kernel
theorem dX9_shaped_1 : decode cX9_shaped 1 = .ok (.iload_n 1, 1) := by decide +kernel
theorem dX9_shaped_2 : decode cX9_shaped 2 = .ok (.invokevirtual 183, 3) := by decide +kernel
theorem dX9_shaped_5 : decode cX9_shaped 5 = .ok (.ifCond .eq 22, 3) := by decide +kernel
theorem dX9_shaped_8 : decode cX9_shaped 8 = .ok (.aload_n 0, 1) := by decide +kernel
theorem dX9_shaped_9 : decode cX9_shaped 9 = .ok (.iload_n 2, 1) := by decide +kernel
theorem dX9_shaped_10 : decode cX9_shaped 10 = .ok (.invokevirtual 142, 3) := by decide +kernel
theorem dX9_shaped_13 : decode cX9_shaped 13 = .ok (.ifCond .eq 14, 3) := by decide +kernel
theorem dX9_shaped_16 : decode cX9_shaped 16 = .ok (.aload_n 0, 1) := by decide +kernel
theorem dX9_shaped_17 : decode cX9_shaped 17 = .ok (.getfield 44, 3) := by decide +kernel
theorem dX9_shaped_20 : decode cX9_shaped 20 = .ok (.iload_n 3, 1) := by decide +kernel
theorem dX9_shaped_21 : decode cX9_shaped 21 = .ok (.invokevirtual 149, 3) := by decide +kernel
theorem dX9_shaped_24 : decode cX9_shaped 24 = .ok (.ifCond .ne 6, 3) := by decide +kernel
theorem dX9_shaped_27 : decode cX9_shaped 27 = .ok (.bipush (-2), 2) := by decide +kernel
theorem dX9_shaped_29 : decode cX9_shaped 29 = .ok (.ireturn, 1) := by decide +kernel
theorem dX9_shaped_30 : decode cX9_shaped 30 = .ok (.aload_n 0, 1) := by decide +kernel
theorem dX9_shaped_31 : decode cX9_shaped 31 = .ok (.getfield 44, 3) := by decide +kernel
theorem dX9_shaped_34 : decode cX9_shaped 34 = .ok (.iload_n 3, 1) := by decide +kernel
theorem dX9_shaped_35 : decode cX9_shaped 35 = .ok (.invokevirtual 152, 3) := by decide +kernel
theorem dX9_shaped_38 : decode cX9_shaped 38 = .ok (.ifCond .ne 6, 3) := by decide +kernel
theorem dX9_shaped_41 : decode cX9_shaped 41 = .ok (.bipush (-6), 2) := by decide +kernel
theorem dX9_shaped_43 : decode cX9_shaped 43 = .ok (.ireturn, 1) := by decide +kernel
theorem dX9_shaped_44 : decode cX9_shaped 44 = .ok (.aload_n 0, 1) := by decide +kernel
theorem dX9_shaped_45 : decode cX9_shaped 45 = .ok (.iload_n 3, 1) := by decide +kernel
theorem dX9_shaped_46 : decode cX9_shaped 46 = .ok (.invokevirtual 311, 3) := by decide +kernel
theorem dX9_shaped_49 : decode cX9_shaped 49 = .ok (.ifCond .eq 17, 3) := by decide +kernel
theorem dX9_shaped_52 : decode cX9_shaped 52 = .ok (.aload_n 0, 1) := by decide +kernel
theorem dX9_shaped_53 : decode cX9_shaped 53 = .ok (.aload_n 0, 1) := by decide +kernel
theorem dX9_shaped_54 : decode cX9_shaped 54 = .ok (.iload_n 1, 1) := by decide +kernel
theorem dX9_shaped_55 : decode cX9_shaped 55 = .ok (.iload_n 2, 1) := by decide +kernel
theorem dX9_shaped_56 : decode cX9_shaped 56 = .ok (.invokevirtual 244, 3) := by decide +kernel
theorem dX9_shaped_59 : decode cX9_shaped 59 = .ok (.iload_n 3, 1) := by decide +kernel
theorem dX9_shaped_60 : decode cX9_shaped 60 = .ok (.invokevirtual 314, 3) := by decide +kernel
theorem dX9_shaped_63 : decode cX9_shaped 63 = .ok (.goto 5, 3) := by decide +kernel
theorem dX9_shaped_66 : decode cX9_shaped 66 = .ok (.bipush (-2), 2) := by decide +kernel
theorem dX9_shaped_68 : decode cX9_shaped 68 = .ok (.ireturn, 1) := by decide +kernel
theorem dX9_shape_0 : decode cX9_shape 0 = .ok (.aload_n 0, 1) := by decide +kernel
theorem dX9_shape_1 : decode cX9_shape 1 = .ok (.invokevirtual 133, 3) := by decide +kernel
theorem dX9_shape_4 : decode cX9_shape 4 = .ok (.ifCond .eq 23, 3) := by decide +kernel
theorem dX9_shape_7 : decode cX9_shape 7 = .ok (.aload_n 0, 1) := by decide +kernel
theorem dX9_shape_8 : decode cX9_shape 8 = .ok (.getfield 44, 3) := by decide +kernel
theorem dX9_shape_11 : decode cX9_shape 11 = .ok (.iload_n 1, 1) := by decide +kernel
theorem dX9_shape_12 : decode cX9_shape 12 = .ok (.invokevirtual 149, 3) := by decide +kernel
theorem dX9_shape_15 : decode cX9_shape 15 = .ok (.ifCond .eq 12, 3) := by decide +kernel
theorem dX9_shape_18 : decode cX9_shape 18 = .ok (.iload_n 2, 1) := by decide +kernel
theorem dX9_shape_19 : decode cX9_shape 19 = .ok (.ifCond .lt 8, 3) := by decide +kernel
theorem dX9_shape_22 : decode cX9_shape 22 = .ok (.iload_n 2, 1) := by decide +kernel
theorem dX9_shape_23 : decode cX9_shape 23 = .ok (.iconst 1, 1) := by decide +kernel
theorem dX9_shape_24 : decode cX9_shape 24 = .ok (.if_icmp .le 6, 3) := by decide +kernel
theorem dX9_shape_27 : decode cX9_shape 27 = .ok (.bipush (-2), 2) := by decide +kernel
theorem dX9_shape_29 : decode cX9_shape 29 = .ok (.ireturn, 1) := by decide +kernel
theorem dX9_shape_30 : decode cX9_shape 30 = .ok (.aload_n 0, 1) := by decide +kernel
theorem dX9_shape_31 : decode cX9_shape 31 = .ok (.getfield 44, 3) := by decide +kernel
theorem dX9_shape_34 : decode cX9_shape 34 = .ok (.iload_n 1, 1) := by decide +kernel
theorem dX9_shape_35 : decode cX9_shape 35 = .ok (.invokevirtual 152, 3) := by decide +kernel
theorem dX9_shape_38 : decode cX9_shape 38 = .ok (.ifCond .ne 6, 3) := by decide +kernel
theorem dX9_shape_41 : decode cX9_shape 41 = .ok (.bipush (-6), 2) := by decide +kernel
theorem dX9_shape_43 : decode cX9_shape 43 = .ok (.ireturn, 1) := by decide +kernel
theorem dX9_shape_44 : decode cX9_shape 44 = .ok (.aload_n 0, 1) := by decide +kernel
theorem dX9_shape_45 : decode cX9_shape 45 = .ok (.iload_n 1, 1) := by decide +kernel
theorem dX9_shape_46 : decode cX9_shape 46 = .ok (.invokevirtual 311, 3) := by decide +kernel
theorem dX9_shape_49 : decode cX9_shape 49 = .ok (.ifCond .ne 6, 3) := by decide +kernel
theorem dX9_shape_52 : decode cX9_shape 52 = .ok (.bipush (-2), 2) := by decide +kernel
theorem dX9_shape_54 : decode cX9_shape 54 = .ok (.ireturn, 1) := by decide +kernel
theorem dX9_shape_55 : decode cX9_shape 55 = .ok (.iconst (-1), 1) := by decide +kernel
theorem dX9_shape_56 : decode cX9_shape 56 = .ok (.istore_n 3, 1) := by decide +kernel
theorem dX9_shape_57 : decode cX9_shape 57 = .ok (.iconst (-1), 1) := by decide +kernel
theorem dX9_shape_58 : decode cX9_shape 58 = .ok (.istore 4, 2) := by decide +kernel
theorem dX9_shape_60 : decode cX9_shape 60 = .ok (.iconst 0, 1) := by decide +kernel
theorem dX9_shape_61 : decode cX9_shape 61 = .ok (.istore 5, 2) := by decide +kernel
theorem dX9_shape_63 : decode cX9_shape 63 = .ok (.iload 5, 2) := by decide +kernel
theorem dX9_shape_65 : decode cX9_shape 65 = .ok (.aload_n 0, 1) := by decide +kernel
theorem dX9_shape_66 : decode cX9_shape 66 = .ok (.getfield 10, 3) := by decide +kernel
theorem dX9_shape_69 : decode cX9_shape 69 = .ok (.getfield 217, 3) := by decide +kernel
theorem dX9_shape_72 : decode cX9_shape 72 = .ok (.if_icmp .ge 79, 3) := by decide +kernel
theorem dX9_shape_75 : decode cX9_shape 75 = .ok (.iconst 0, 1) := by decide +kernel
theorem dX9_shape_76 : decode cX9_shape 76 = .ok (.istore 6, 2) := by decide +kernel
theorem dX9_shape_78 : decode cX9_shape 78 = .ok (.iload 6, 2) := by decide +kernel
theorem dX9_shape_80 : decode cX9_shape 80 = .ok (.aload_n 0, 1) := by decide +kernel
theorem dX9_shape_81 : decode cX9_shape 81 = .ok (.getfield 10, 3) := by decide +kernel
theorem dX9_shape_84 : decode cX9_shape 84 = .ok (.getfield 98, 3) := by decide +kernel
theorem dX9_shape_87 : decode cX9_shape 87 = .ok (.getfield 200, 3) := by decide +kernel
theorem dX9_shape_90 : decode cX9_shape 90 = .ok (.if_icmp .ge 55, 3) := by decide +kernel
theorem dX9_shape_93 : decode cX9_shape 93 = .ok (.aload_n 0, 1) := by decide +kernel
theorem dX9_shape_94 : decode cX9_shape 94 = .ok (.aload_n 0, 1) := by decide +kernel
theorem dX9_shape_95 : decode cX9_shape 95 = .ok (.iload 5, 2) := by decide +kernel
theorem dX9_shape_97 : decode cX9_shape 97 = .ok (.iload 6, 2) := by decide +kernel
theorem dX9_shape_99 : decode cX9_shape 99 = .ok (.aload_n 0, 1) := by decide +kernel
theorem dX9_shape_100 : decode cX9_shape 100 = .ok (.getfield 10, 3) := by decide +kernel
theorem dX9_shape_103 : decode cX9_shape 103 = .ok (.getfield 238, 3) := by decide +kernel
theorem dX9_shape_106 : decode cX9_shape 106 = .ok (.invokevirtual 301, 3) := by decide +kernel
theorem dX9_shape_109 : decode cX9_shape 109 = .ok (.iload_n 1, 1) := by decide +kernel
theorem dX9_shape_110 : decode cX9_shape 110 = .ok (.invokevirtual 314, 3) := by decide +kernel
theorem dX9_shape_113 : decode cX9_shape 113 = .ok (.istore 7, 2) := by decide +kernel
theorem dX9_shape_115 : decode cX9_shape 115 = .ok (.iload_n 3, 1) := by decide +kernel
theorem dX9_shape_116 : decode cX9_shape 116 = .ok (.iconst (-1), 1) := by decide +kernel
theorem dX9_shape_117 : decode cX9_shape 117 = .ok (.if_icmp .eq 9, 3) := by decide +kernel
theorem dX9_shape_120 : decode cX9_shape 120 = .ok (.iload 7, 2) := by decide +kernel
theorem dX9_shape_122 : decode cX9_shape 122 = .ok (.iload_n 3, 1) := by decide +kernel
theorem dX9_shape_123 : decode cX9_shape 123 = .ok (.if_icmp .ge 16, 3) := by decide +kernel
theorem dX9_shape_126 : decode cX9_shape 126 = .ok (.iload 7, 2) := by decide +kernel
theorem dX9_shape_128 : decode cX9_shape 128 = .ok (.istore_n 3, 1) := by decide +kernel
theorem dX9_shape_129 : decode cX9_shape 129 = .ok (.bipush 10, 2) := by decide +kernel
theorem dX9_shape_131 : decode cX9_shape 131 = .ok (.iload 5, 2) := by decide +kernel
theorem dX9_shape_133 : decode cX9_shape 133 = .ok (.imul, 1) := by decide +kernel
theorem dX9_shape_134 : decode cX9_shape 134 = .ok (.iload 6, 2) := by decide +kernel
theorem dX9_shape_136 : decode cX9_shape 136 = .ok (.iadd, 1) := by decide +kernel
theorem dX9_shape_137 : decode cX9_shape 137 = .ok (.istore 4, 2) := by decide +kernel
theorem dX9_shape_139 : decode cX9_shape 139 = .ok (.iinc 6 1, 3) := by decide +kernel
theorem dX9_shape_142 : decode cX9_shape 142 = .ok (.goto (-64), 3) := by decide +kernel
theorem dX9_shape_145 : decode cX9_shape 145 = .ok (.iinc 5 1, 3) := by decide +kernel
theorem dX9_shape_148 : decode cX9_shape 148 = .ok (.goto (-85), 3) := by decide +kernel
theorem dX9_shape_151 : decode cX9_shape 151 = .ok (.iload_n 2, 1) := by decide +kernel
theorem dX9_shape_152 : decode cX9_shape 152 = .ok (.ifCond .ne 7, 3) := by decide +kernel
theorem dX9_shape_155 : decode cX9_shape 155 = .ok (.iload_n 3, 1) := by decide +kernel
theorem dX9_shape_156 : decode cX9_shape 156 = .ok (.goto 5, 3) := by decide +kernel
theorem dX9_shape_159 : decode cX9_shape 159 = .ok (.iload 4, 2) := by decide +kernel
theorem dX9_shape_161 : decode cX9_shape 161 = .ok (.ireturn, 1) := by decide +kernel
theorem dX9_isShape_0 : decode cX9_isShape 0 = .ok (.iconst 0, 1) := by decide +kernel
theorem dX9_isShape_1 : decode cX9_isShape 1 = .ok (.istore_n 2, 1) := by decide +kernel
theorem dX9_isShape_2 : decode cX9_isShape 2 = .ok (.iload_n 2, 1) := by decide +kernel
theorem dX9_isShape_3 : decode cX9_isShape 3 = .ok (.aload_n 0, 1) := by decide +kernel
theorem dX9_isShape_4 : decode cX9_isShape 4 = .ok (.getfield 44, 3) := by decide +kernel
theorem dX9_isShape_7 : decode cX9_isShape 7 = .ok (.iload_n 1, 1) := by decide +kernel
theorem dX9_isShape_8 : decode cX9_isShape 8 = .ok (.invokevirtual 155, 3) := by decide +kernel
theorem dX9_isShape_11 : decode cX9_isShape 11 = .ok (.if_icmp .ge 67, 3) := by decide +kernel
theorem dX9_isShape_14 : decode cX9_isShape 14 = .ok (.aload_n 0, 1) := by decide +kernel
theorem dX9_isShape_15 : decode cX9_isShape 15 = .ok (.getfield 44, 3) := by decide +kernel
theorem dX9_isShape_18 : decode cX9_isShape 18 = .ok (.iload_n 1, 1) := by decide +kernel
theorem dX9_isShape_19 : decode cX9_isShape 19 = .ok (.iload_n 2, 1) := by decide +kernel
theorem dX9_isShape_20 : decode cX9_isShape 20 = .ok (.invokevirtual 162, 3) := by decide +kernel
theorem dX9_isShape_23 : decode cX9_isShape 23 = .ok (.lstore_n 3, 1) := by decide +kernel
theorem dX9_isShape_24 : decode cX9_isShape 24 = .ok (.lload_n 3, 1) := by decide +kernel
theorem dX9_isShape_25 : decode cX9_isShape 25 = .ok (.lconst 0, 1) := by decide +kernel
theorem dX9_isShape_26 : decode cX9_isShape 26 = .ok (.lcmp, 1) := by decide +kernel
theorem dX9_isShape_27 : decode cX9_isShape 27 = .ok (.ifCond .lt 43, 3) := by decide +kernel
theorem dX9_isShape_30 : decode cX9_isShape 30 = .ok (.lload_n 3, 1) := by decide +kernel
theorem dX9_isShape_31 : decode cX9_isShape 31 = .ok (.ldc2_w 318, 3) := by decide +kernel
theorem dX9_isShape_34 : decode cX9_isShape 34 = .ok (.ldiv, 1) := by decide +kernel
theorem dX9_isShape_35 : decode cX9_isShape 35 = .ok (.aload_n 0, 1) := by decide +kernel
theorem dX9_isShape_36 : decode cX9_isShape 36 = .ok (.getfield 10, 3) := by decide +kernel
theorem dX9_isShape_39 : decode cX9_isShape 39 = .ok (.getfield 98, 3) := by decide +kernel
theorem dX9_isShape_42 : decode cX9_isShape 42 = .ok (.getfield 166, 3) := by decide +kernel
theorem dX9_isShape_45 : decode cX9_isShape 45 = .ok (.i2l, 1) := by decide +kernel
theorem dX9_isShape_46 : decode cX9_isShape 46 = .ok (.lcmp, 1) := by decide +kernel
theorem dX9_isShape_47 : decode cX9_isShape 47 = .ok (.ifCond .ge 23, 3) := by decide +kernel
theorem dX9_isShape_50 : decode cX9_isShape 50 = .ok (.lload_n 3, 1) := by decide +kernel
theorem dX9_isShape_51 : decode cX9_isShape 51 = .ok (.ldc2_w 318, 3) := by decide +kernel
theorem dX9_isShape_54 : decode cX9_isShape 54 = .ok (.lrem, 1) := by decide +kernel
theorem dX9_isShape_55 : decode cX9_isShape 55 = .ok (.aload_n 0, 1) := by decide +kernel
theorem dX9_isShape_56 : decode cX9_isShape 56 = .ok (.getfield 10, 3) := by decide +kernel
theorem dX9_isShape_59 : decode cX9_isShape 59 = .ok (.getfield 98, 3) := by decide +kernel
theorem dX9_isShape_62 : decode cX9_isShape 62 = .ok (.getfield 159, 3) := by decide +kernel
theorem dX9_isShape_65 : decode cX9_isShape 65 = .ok (.i2l, 1) := by decide +kernel
theorem dX9_isShape_66 : decode cX9_isShape 66 = .ok (.lcmp, 1) := by decide +kernel
theorem dX9_isShape_67 : decode cX9_isShape 67 = .ok (.ifCond .lt 5, 3) := by decide +kernel
theorem dX9_isShape_70 : decode cX9_isShape 70 = .ok (.iconst 0, 1) := by decide +kernel
theorem dX9_isShape_71 : decode cX9_isShape 71 = .ok (.ireturn, 1) := by decide +kernel
theorem dX9_isShape_72 : decode cX9_isShape 72 = .ok (.iinc 2 1, 3) := by decide +kernel
theorem dX9_isShape_75 : decode cX9_isShape 75 = .ok (.goto (-73), 3) := by decide +kernel
theorem dX9_isShape_78 : decode cX9_isShape 78 = .ok (.iconst 1, 1) := by decide +kernel
theorem dX9_isShape_79 : decode cX9_isShape 79 = .ok (.ireturn, 1) := by decide +kernel
theorem dX9_shapeTurn_0 : decode cX9_shapeTurn 0 = .ok (.iconst 0, 1) := by decide +kernel
theorem dX9_shapeTurn_1 : decode cX9_shapeTurn 1 = .ok (.istore_n 3, 1) := by decide +kernel
theorem dX9_shapeTurn_2 : decode cX9_shapeTurn 2 = .ok (.iconst 0, 1) := by decide +kernel
theorem dX9_shapeTurn_3 : decode cX9_shapeTurn 3 = .ok (.istore 4, 2) := by decide +kernel
theorem dX9_shapeTurn_5 : decode cX9_shapeTurn 5 = .ok (.iload 4, 2) := by decide +kernel
theorem dX9_shapeTurn_7 : decode cX9_shapeTurn 7 = .ok (.aload_n 0, 1) := by decide +kernel
theorem dX9_shapeTurn_8 : decode cX9_shapeTurn 8 = .ok (.getfield 44, 3) := by decide +kernel
theorem dX9_shapeTurn_11 : decode cX9_shapeTurn 11 = .ok (.iload_n 2, 1) := by decide +kernel
theorem dX9_shapeTurn_12 : decode cX9_shapeTurn 12 = .ok (.invokevirtual 155, 3) := by decide +kernel
theorem dX9_shapeTurn_15 : decode cX9_shapeTurn 15 = .ok (.if_icmp .ge 41, 3) := by decide +kernel
theorem dX9_shapeTurn_18 : decode cX9_shapeTurn 18 = .ok (.aload_n 0, 1) := by decide +kernel
theorem dX9_shapeTurn_19 : decode cX9_shapeTurn 19 = .ok (.getfield 44, 3) := by decide +kernel
theorem dX9_shapeTurn_22 : decode cX9_shapeTurn 22 = .ok (.iload_n 2, 1) := by decide +kernel
theorem dX9_shapeTurn_23 : decode cX9_shapeTurn 23 = .ok (.iload 4, 2) := by decide +kernel
theorem dX9_shapeTurn_25 : decode cX9_shapeTurn 25 = .ok (.invokevirtual 162, 3) := by decide +kernel
theorem dX9_shapeTurn_28 : decode cX9_shapeTurn 28 = .ok (.l2i, 1) := by decide +kernel
theorem dX9_shapeTurn_29 : decode cX9_shapeTurn 29 = .ok (.istore 5, 2) := by decide +kernel
theorem dX9_shapeTurn_31 : decode cX9_shapeTurn 31 = .ok (.iload_n 3, 1) := by decide +kernel
theorem dX9_shapeTurn_32 : decode cX9_shapeTurn 32 = .ok (.aload_n 1, 1) := by decide +kernel
theorem dX9_shapeTurn_33 : decode cX9_shapeTurn 33 = .ok (.iload 5, 2) := by decide +kernel
theorem dX9_shapeTurn_35 : decode cX9_shapeTurn 35 = .ok (.bipush 10, 2) := by decide +kernel
theorem dX9_shapeTurn_37 : decode cX9_shapeTurn 37 = .ok (.idiv, 1) := by decide +kernel
theorem dX9_shapeTurn_38 : decode cX9_shapeTurn 38 = .ok (.iload 5, 2) := by decide +kernel
theorem dX9_shapeTurn_40 : decode cX9_shapeTurn 40 = .ok (.bipush 10, 2) := by decide +kernel
theorem dX9_shapeTurn_42 : decode cX9_shapeTurn 42 = .ok (.irem, 1) := by decide +kernel
theorem dX9_shapeTurn_43 : decode cX9_shapeTurn 43 = .ok (.invokevirtual 320, 3) := by decide +kernel
theorem dX9_shapeTurn_46 : decode cX9_shapeTurn 46 = .ok (.invokestatic 287, 3) := by decide +kernel
theorem dX9_shapeTurn_49 : decode cX9_shapeTurn 49 = .ok (.istore_n 3, 1) := by decide +kernel
theorem dX9_shapeTurn_50 : decode cX9_shapeTurn 50 = .ok (.iinc 4 1, 3) := by decide +kernel
theorem dX9_shapeTurn_53 : decode cX9_shapeTurn 53 = .ok (.goto (-48), 3) := by decide +kernel
theorem dX9_shapeTurn_56 : decode cX9_shapeTurn 56 = .ok (.iload_n 3, 1) := by decide +kernel
theorem dX9_shapeTurn_57 : decode cX9_shapeTurn 57 = .ok (.ireturn, 1) := by decide +kernel
theorem dX9_corners_0 : decode cX9_corners 0 = .ok (.aload_n 0, 1) := by decide +kernel
theorem dX9_corners_1 : decode cX9_corners 1 = .ok (.iload_n 1, 1) := by decide +kernel
theorem dX9_corners_2 : decode cX9_corners 2 = .ok (.invokevirtual 183, 3) := by decide +kernel
theorem dX9_corners_5 : decode cX9_corners 5 = .ok (.ifCond .eq 11, 3) := by decide +kernel
theorem dX9_corners_8 : decode cX9_corners 8 = .ok (.aload_n 0, 1) := by decide +kernel
theorem dX9_corners_9 : decode cX9_corners 9 = .ok (.iload_n 2, 1) := by decide +kernel
theorem dX9_corners_10 : decode cX9_corners 10 = .ok (.invokevirtual 142, 3) := by decide +kernel
theorem dX9_corners_13 : decode cX9_corners 13 = .ok (.ifCond .ne 6, 3) := by decide +kernel
theorem dX9_corners_16 : decode cX9_corners 16 = .ok (.bipush (-2), 2) := by decide +kernel
theorem dX9_corners_18 : decode cX9_corners 18 = .ok (.ireturn, 1) := by decide +kernel
theorem dX9_corners_19 : decode cX9_corners 19 = .ok (.aload_n 0, 1) := by decide +kernel
theorem dX9_corners_20 : decode cX9_corners 20 = .ok (.iload_n 1, 1) := by decide +kernel
theorem dX9_corners_21 : decode cX9_corners 21 = .ok (.iload_n 2, 1) := by decide +kernel
theorem dX9_corners_22 : decode cX9_corners 22 = .ok (.invokevirtual 244, 3) := by decide +kernel
theorem dX9_corners_25 : decode cX9_corners 25 = .ok (.astore_n 3, 1) := by decide +kernel
theorem dX9_corners_26 : decode cX9_corners 26 = .ok (.aload_n 3, 1) := by decide +kernel
theorem dX9_corners_27 : decode cX9_corners 27 = .ok (.iconst 0, 1) := by decide +kernel
theorem dX9_corners_28 : decode cX9_corners 28 = .ok (.invokevirtual 323, 3) := by decide +kernel
theorem dX9_corners_31 : decode cX9_corners 31 = .ok (.aload_n 3, 1) := by decide +kernel
theorem dX9_corners_32 : decode cX9_corners 32 = .ok (.aload_n 0, 1) := by decide +kernel
theorem dX9_corners_33 : decode cX9_corners 33 = .ok (.getfield 10, 3) := by decide +kernel
theorem dX9_corners_36 : decode cX9_corners 36 = .ok (.getfield 98, 3) := by decide +kernel
theorem dX9_corners_39 : decode cX9_corners 39 = .ok (.getfield 166, 3) := by decide +kernel
theorem dX9_corners_42 : decode cX9_corners 42 = .ok (.iconst 1, 1) := by decide +kernel
theorem dX9_corners_43 : decode cX9_corners 43 = .ok (.isub, 1) := by decide +kernel
theorem dX9_corners_44 : decode cX9_corners 44 = .ok (.invokevirtual 323, 3) := by decide +kernel
theorem dX9_corners_47 : decode cX9_corners 47 = .ok (.invokestatic 287, 3) := by decide +kernel
theorem dX9_corners_50 : decode cX9_corners 50 = .ok (.ireturn, 1) := by decide +kernel
theorem dX9_filled_0 : decode cX9_filled 0 = .ok (.aload_n 0, 1) := by decide +kernel
theorem dX9_filled_1 : decode cX9_filled 1 = .ok (.iload_n 1, 1) := by decide +kernel
theorem dX9_filled_2 : decode cX9_filled 2 = .ok (.invokevirtual 183, 3) := by decide +kernel
theorem dX9_filled_5 : decode cX9_filled 5 = .ok (.ifCond .eq 19, 3) := by decide +kernel
theorem dX9_filled_8 : decode cX9_filled 8 = .ok (.aload_n 0, 1) := by decide +kernel
theorem dX9_filled_9 : decode cX9_filled 9 = .ok (.iload_n 2, 1) := by decide +kernel
theorem dX9_filled_10 : decode cX9_filled 10 = .ok (.invokevirtual 142, 3) := by decide +kernel
theorem dX9_filled_13 : decode cX9_filled 13 = .ok (.ifCond .eq 11, 3) := by decide +kernel
theorem dX9_filled_16 : decode cX9_filled 16 = .ok (.aload_n 0, 1) := by decide +kernel
theorem dX9_filled_17 : decode cX9_filled 17 = .ok (.iload_n 3, 1) := by decide +kernel
theorem dX9_filled_18 : decode cX9_filled 18 = .ok (.invokevirtual 121, 3) := by decide +kernel
theorem dX9_filled_21 : decode cX9_filled 21 = .ok (.ifCond .ne 6, 3) := by decide +kernel
theorem dX9_filled_24 : decode cX9_filled 24 = .ok (.bipush (-2), 2) := by decide +kernel
theorem dX9_filled_26 : decode cX9_filled 26 = .ok (.ireturn, 1) := by decide +kernel
theorem dX9_filled_27 : decode cX9_filled 27 = .ok (.aload_n 0, 1) := by decide +kernel
theorem dX9_filled_28 : decode cX9_filled 28 = .ok (.iload_n 1, 1) := by decide +kernel
theorem dX9_filled_29 : decode cX9_filled 29 = .ok (.iload_n 2, 1) := by decide +kernel
theorem dX9_filled_30 : decode cX9_filled 30 = .ok (.invokevirtual 244, 3) := by decide +kernel
theorem dX9_filled_33 : decode cX9_filled 33 = .ok (.astore 4, 2) := by decide +kernel
theorem dX9_filled_35 : decode cX9_filled 35 = .ok (.iconst 0, 1) := by decide +kernel
theorem dX9_filled_36 : decode cX9_filled 36 = .ok (.istore 5, 2) := by decide +kernel
theorem dX9_filled_38 : decode cX9_filled 38 = .ok (.iconst 0, 1) := by decide +kernel
theorem dX9_filled_39 : decode cX9_filled 39 = .ok (.istore 6, 2) := by decide +kernel
theorem dX9_filled_41 : decode cX9_filled 41 = .ok (.iload 6, 2) := by decide +kernel
theorem dX9_filled_43 : decode cX9_filled 43 = .ok (.aload_n 0, 1) := by decide +kernel
theorem dX9_filled_44 : decode cX9_filled 44 = .ok (.getfield 10, 3) := by decide +kernel
theorem dX9_filled_47 : decode cX9_filled 47 = .ok (.getfield 98, 3) := by decide +kernel
theorem dX9_filled_50 : decode cX9_filled 50 = .ok (.getfield 166, 3) := by decide +kernel
theorem dX9_filled_53 : decode cX9_filled 53 = .ok (.if_icmp .ge 24, 3) := by decide +kernel
theorem dX9_filled_56 : decode cX9_filled 56 = .ok (.iload 5, 2) := by decide +kernel
theorem dX9_filled_58 : decode cX9_filled 58 = .ok (.aload 4, 2) := by decide +kernel
theorem dX9_filled_60 : decode cX9_filled 60 = .ok (.iload 6, 2) := by decide +kernel
theorem dX9_filled_62 : decode cX9_filled 62 = .ok (.iload_n 3, 1) := by decide +kernel
theorem dX9_filled_63 : decode cX9_filled 63 = .ok (.invokevirtual 320, 3) := by decide +kernel
theorem dX9_filled_66 : decode cX9_filled 66 = .ok (.invokestatic 287, 3) := by decide +kernel
theorem dX9_filled_69 : decode cX9_filled 69 = .ok (.istore 5, 2) := by decide +kernel
theorem dX9_filled_71 : decode cX9_filled 71 = .ok (.iinc 6 1, 3) := by decide +kernel
theorem dX9_filled_74 : decode cX9_filled 74 = .ok (.goto (-33), 3) := by decide +kernel
theorem dX9_filled_77 : decode cX9_filled 77 = .ok (.iload 5, 2) := by decide +kernel
theorem dX9_filled_79 : decode cX9_filled 79 = .ok (.ireturn, 1) := by decide +kernel
theorem dX9_last_0 : decode cX9_last 0 = .ok (.aload_n 0, 1) := by decide +kernel
theorem dX9_last_1 : decode cX9_last 1 = .ok (.iload_n 1, 1) := by decide +kernel
theorem dX9_last_2 : decode cX9_last 2 = .ok (.invokevirtual 183, 3) := by decide +kernel
theorem dX9_last_5 : decode cX9_last 5 = .ok (.ifCond .eq 11, 3) := by decide +kernel
theorem dX9_last_8 : decode cX9_last 8 = .ok (.aload_n 0, 1) := by decide +kernel
theorem dX9_last_9 : decode cX9_last 9 = .ok (.iload_n 2, 1) := by decide +kernel
theorem dX9_last_10 : decode cX9_last 10 = .ok (.invokevirtual 142, 3) := by decide +kernel
theorem dX9_last_13 : decode cX9_last 13 = .ok (.ifCond .ne 6, 3) := by decide +kernel
theorem dX9_last_16 : decode cX9_last 16 = .ok (.bipush (-2), 2) := by decide +kernel
theorem dX9_last_18 : decode cX9_last 18 = .ok (.ireturn, 1) := by decide +kernel
theorem dX9_last_19 : decode cX9_last 19 = .ok (.aload_n 0, 1) := by decide +kernel
theorem dX9_last_20 : decode cX9_last 20 = .ok (.iload_n 1, 1) := by decide +kernel
theorem dX9_last_21 : decode cX9_last 21 = .ok (.iload_n 2, 1) := by decide +kernel
theorem dX9_last_22 : decode cX9_last 22 = .ok (.invokevirtual 244, 3) := by decide +kernel
theorem dX9_last_25 : decode cX9_last 25 = .ok (.iconst 2, 1) := by decide +kernel
theorem dX9_last_26 : decode cX9_last 26 = .ok (.invokevirtual 260, 3) := by decide +kernel
theorem dX9_last_29 : decode cX9_last 29 = .ok (.istore_n 3, 1) := by decide +kernel
theorem dX9_last_30 : decode cX9_last 30 = .ok (.iload_n 3, 1) := by decide +kernel
theorem dX9_last_31 : decode cX9_last 31 = .ok (.iconst 1, 1) := by decide +kernel
theorem dX9_last_32 : decode cX9_last 32 = .ok (.if_icmp .lt 17, 3) := by decide +kernel
theorem dX9_last_35 : decode cX9_last 35 = .ok (.iload_n 3, 1) := by decide +kernel
theorem dX9_last_36 : decode cX9_last 36 = .ok (.aload_n 0, 1) := by decide +kernel
theorem dX9_last_37 : decode cX9_last 37 = .ok (.getfield 10, 3) := by decide +kernel
theorem dX9_last_40 : decode cX9_last 40 = .ok (.getfield 98, 3) := by decide +kernel
theorem dX9_last_43 : decode cX9_last 43 = .ok (.getfield 136, 3) := by decide +kernel
theorem dX9_last_46 : decode cX9_last 46 = .ok (.if_icmp .le 8, 3) := by decide +kernel
theorem dX9_last_49 : decode cX9_last 49 = .ok (.bipush (-2), 2) := by decide +kernel
theorem dX9_last_51 : decode cX9_last 51 = .ok (.goto 14, 3) := by decide +kernel
theorem dX9_last_54 : decode cX9_last 54 = .ok (.aload_n 0, 1) := by decide +kernel
theorem dX9_last_55 : decode cX9_last 55 = .ok (.getfield 10, 3) := by decide +kernel
theorem dX9_last_58 : decode cX9_last 58 = .ok (.getfield 105, 3) := by decide +kernel
theorem dX9_last_61 : decode cX9_last 61 = .ok (.iload_n 3, 1) := by decide +kernel
theorem dX9_last_62 : decode cX9_last 62 = .ok (.iconst 1, 1) := by decide +kernel
theorem dX9_last_63 : decode cX9_last 63 = .ok (.isub, 1) := by decide +kernel
theorem dX9_last_64 : decode cX9_last 64 = .ok (.iaload, 1) := by decide +kernel
theorem dX9_last_65 : decode cX9_last 65 = .ok (.ireturn, 1) := by decide +kernel
theorem dX9_sweat_0 : decode cX9_sweat 0 = .ok (.aload_n 0, 1) := by decide +kernel
theorem dX9_sweat_1 : decode cX9_sweat 1 = .ok (.iload_n 1, 1) := by decide +kernel
theorem dX9_sweat_2 : decode cX9_sweat 2 = .ok (.invokevirtual 254, 3) := by decide +kernel
theorem dX9_sweat_5 : decode cX9_sweat 5 = .ok (.ifCond .eq 11, 3) := by decide +kernel
theorem dX9_sweat_8 : decode cX9_sweat 8 = .ok (.aload_n 0, 1) := by decide +kernel
theorem dX9_sweat_9 : decode cX9_sweat 9 = .ok (.iload_n 2, 1) := by decide +kernel
theorem dX9_sweat_10 : decode cX9_sweat 10 = .ok (.invokevirtual 241, 3) := by decide +kernel
theorem dX9_sweat_13 : decode cX9_sweat 13 = .ok (.ifCond .ne 6, 3) := by decide +kernel
theorem dX9_sweat_16 : decode cX9_sweat 16 = .ok (.bipush (-2), 2) := by decide +kernel
theorem dX9_sweat_18 : decode cX9_sweat 18 = .ok (.ireturn, 1) := by decide +kernel
theorem dX9_sweat_19 : decode cX9_sweat 19 = .ok (.iconst 0, 1) := by decide +kernel
theorem dX9_sweat_20 : decode cX9_sweat 20 = .ok (.istore_n 3, 1) := by decide +kernel
theorem dX9_sweat_21 : decode cX9_sweat 21 = .ok (.iconst 0, 1) := by decide +kernel
theorem dX9_sweat_22 : decode cX9_sweat 22 = .ok (.istore 4, 2) := by decide +kernel
theorem dX9_sweat_24 : decode cX9_sweat 24 = .ok (.iload 4, 2) := by decide +kernel
theorem dX9_sweat_26 : decode cX9_sweat 26 = .ok (.aload_n 0, 1) := by decide +kernel
theorem dX9_sweat_27 : decode cX9_sweat 27 = .ok (.getfield 10, 3) := by decide +kernel
theorem dX9_sweat_30 : decode cX9_sweat 30 = .ok (.getfield 217, 3) := by decide +kernel
theorem dX9_sweat_33 : decode cX9_sweat 33 = .ok (.if_icmp .ge 60, 3) := by decide +kernel
theorem dX9_sweat_36 : decode cX9_sweat 36 = .ok (.iconst 0, 1) := by decide +kernel
theorem dX9_sweat_37 : decode cX9_sweat 37 = .ok (.istore 5, 2) := by decide +kernel
theorem dX9_sweat_39 : decode cX9_sweat 39 = .ok (.iload 5, 2) := by decide +kernel
theorem dX9_sweat_41 : decode cX9_sweat 41 = .ok (.aload_n 0, 1) := by decide +kernel
theorem dX9_sweat_42 : decode cX9_sweat 42 = .ok (.getfield 10, 3) := by decide +kernel
theorem dX9_sweat_45 : decode cX9_sweat 45 = .ok (.getfield 98, 3) := by decide +kernel
theorem dX9_sweat_48 : decode cX9_sweat 48 = .ok (.getfield 200, 3) := by decide +kernel
theorem dX9_sweat_51 : decode cX9_sweat 51 = .ok (.if_icmp .ge 36, 3) := by decide +kernel
theorem dX9_sweat_54 : decode cX9_sweat 54 = .ok (.aload_n 0, 1) := by decide +kernel
theorem dX9_sweat_55 : decode cX9_sweat 55 = .ok (.iload 4, 2) := by decide +kernel
theorem dX9_sweat_57 : decode cX9_sweat 57 = .ok (.iload 5, 2) := by decide +kernel
theorem dX9_sweat_59 : decode cX9_sweat 59 = .ok (.aload_n 0, 1) := by decide +kernel
theorem dX9_sweat_60 : decode cX9_sweat 60 = .ok (.getfield 10, 3) := by decide +kernel
theorem dX9_sweat_63 : decode cX9_sweat 63 = .ok (.getfield 238, 3) := by decide +kernel
theorem dX9_sweat_66 : decode cX9_sweat 66 = .ok (.invokevirtual 301, 3) := by decide +kernel
theorem dX9_sweat_69 : decode cX9_sweat 69 = .ok (.iload_n 1, 1) := by decide +kernel
theorem dX9_sweat_70 : decode cX9_sweat 70 = .ok (.iload_n 2, 1) := by decide +kernel
theorem dX9_sweat_71 : decode cX9_sweat 71 = .ok (.invokevirtual 257, 3) := by decide +kernel
theorem dX9_sweat_74 : decode cX9_sweat 74 = .ok (.iconst 1, 1) := by decide +kernel
theorem dX9_sweat_75 : decode cX9_sweat 75 = .ok (.if_icmp .ne 6, 3) := by decide +kernel
theorem dX9_sweat_78 : decode cX9_sweat 78 = .ok (.iinc 3 1, 3) := by decide +kernel
theorem dX9_sweat_81 : decode cX9_sweat 81 = .ok (.iinc 5 1, 3) := by decide +kernel
theorem dX9_sweat_84 : decode cX9_sweat 84 = .ok (.goto (-45), 3) := by decide +kernel
theorem dX9_sweat_87 : decode cX9_sweat 87 = .ok (.iinc 4 1, 3) := by decide +kernel
theorem dX9_sweat_90 : decode cX9_sweat 90 = .ok (.goto (-66), 3) := by decide +kernel
theorem dX9_sweat_93 : decode cX9_sweat 93 = .ok (.iload_n 3, 1) := by decide +kernel
theorem dX9_sweat_94 : decode cX9_sweat 94 = .ok (.ireturn, 1) := by decide +kernel
theorem dX9_nearest_0 : decode cX9_nearest 0 = .ok (.aload_n 0, 1) := by decide +kernel
theorem dX9_nearest_1 : decode cX9_nearest 1 = .ok (.iload_n 1, 1) := by decide +kernel
theorem dX9_nearest_2 : decode cX9_nearest 2 = .ok (.invokevirtual 254, 3) := by decide +kernel
theorem dX9_nearest_5 : decode cX9_nearest 5 = .ok (.ifCond .eq 11, 3) := by decide +kernel
theorem dX9_nearest_8 : decode cX9_nearest 8 = .ok (.aload_n 0, 1) := by decide +kernel
theorem dX9_nearest_9 : decode cX9_nearest 9 = .ok (.iload_n 2, 1) := by decide +kernel
theorem dX9_nearest_10 : decode cX9_nearest 10 = .ok (.invokevirtual 241, 3) := by decide +kernel
theorem dX9_nearest_13 : decode cX9_nearest 13 = .ok (.ifCond .ne 6, 3) := by decide +kernel
theorem dX9_nearest_16 : decode cX9_nearest 16 = .ok (.bipush (-2), 2) := by decide +kernel
theorem dX9_nearest_18 : decode cX9_nearest 18 = .ok (.ireturn, 1) := by decide +kernel
theorem dX9_nearest_19 : decode cX9_nearest 19 = .ok (.iconst (-1), 1) := by decide +kernel
theorem dX9_nearest_20 : decode cX9_nearest 20 = .ok (.istore_n 3, 1) := by decide +kernel
theorem dX9_nearest_21 : decode cX9_nearest 21 = .ok (.iconst 0, 1) := by decide +kernel
theorem dX9_nearest_22 : decode cX9_nearest 22 = .ok (.istore 4, 2) := by decide +kernel
theorem dX9_nearest_24 : decode cX9_nearest 24 = .ok (.iload 4, 2) := by decide +kernel
theorem dX9_nearest_26 : decode cX9_nearest 26 = .ok (.aload_n 0, 1) := by decide +kernel
theorem dX9_nearest_27 : decode cX9_nearest 27 = .ok (.getfield 10, 3) := by decide +kernel
theorem dX9_nearest_30 : decode cX9_nearest 30 = .ok (.getfield 217, 3) := by decide +kernel
theorem dX9_nearest_33 : decode cX9_nearest 33 = .ok (.if_icmp .ge 75, 3) := by decide +kernel
theorem dX9_nearest_36 : decode cX9_nearest 36 = .ok (.iconst 0, 1) := by decide +kernel
theorem dX9_nearest_37 : decode cX9_nearest 37 = .ok (.istore 5, 2) := by decide +kernel
theorem dX9_nearest_39 : decode cX9_nearest 39 = .ok (.iload 5, 2) := by decide +kernel
theorem dX9_nearest_41 : decode cX9_nearest 41 = .ok (.aload_n 0, 1) := by decide +kernel
theorem dX9_nearest_42 : decode cX9_nearest 42 = .ok (.getfield 10, 3) := by decide +kernel
theorem dX9_nearest_45 : decode cX9_nearest 45 = .ok (.getfield 98, 3) := by decide +kernel
theorem dX9_nearest_48 : decode cX9_nearest 48 = .ok (.getfield 200, 3) := by decide +kernel
theorem dX9_nearest_51 : decode cX9_nearest 51 = .ok (.if_icmp .ge 51, 3) := by decide +kernel
theorem dX9_nearest_54 : decode cX9_nearest 54 = .ok (.aload_n 0, 1) := by decide +kernel
theorem dX9_nearest_55 : decode cX9_nearest 55 = .ok (.iload 4, 2) := by decide +kernel
theorem dX9_nearest_57 : decode cX9_nearest 57 = .ok (.iload 5, 2) := by decide +kernel
theorem dX9_nearest_59 : decode cX9_nearest 59 = .ok (.aload_n 0, 1) := by decide +kernel
theorem dX9_nearest_60 : decode cX9_nearest 60 = .ok (.getfield 10, 3) := by decide +kernel
theorem dX9_nearest_63 : decode cX9_nearest 63 = .ok (.getfield 238, 3) := by decide +kernel
theorem dX9_nearest_66 : decode cX9_nearest 66 = .ok (.invokevirtual 301, 3) := by decide +kernel
theorem dX9_nearest_69 : decode cX9_nearest 69 = .ok (.iload_n 1, 1) := by decide +kernel
theorem dX9_nearest_70 : decode cX9_nearest 70 = .ok (.iload_n 2, 1) := by decide +kernel
theorem dX9_nearest_71 : decode cX9_nearest 71 = .ok (.invokevirtual 257, 3) := by decide +kernel
theorem dX9_nearest_74 : decode cX9_nearest 74 = .ok (.istore 6, 2) := by decide +kernel
theorem dX9_nearest_76 : decode cX9_nearest 76 = .ok (.iload 6, 2) := by decide +kernel
theorem dX9_nearest_78 : decode cX9_nearest 78 = .ok (.iconst (-1), 1) := by decide +kernel
theorem dX9_nearest_79 : decode cX9_nearest 79 = .ok (.if_icmp .eq 17, 3) := by decide +kernel
theorem dX9_nearest_82 : decode cX9_nearest 82 = .ok (.iload_n 3, 1) := by decide +kernel
theorem dX9_nearest_83 : decode cX9_nearest 83 = .ok (.iconst (-1), 1) := by decide +kernel
theorem dX9_nearest_84 : decode cX9_nearest 84 = .ok (.if_icmp .eq 9, 3) := by decide +kernel
theorem dX9_nearest_87 : decode cX9_nearest 87 = .ok (.iload 6, 2) := by decide +kernel
theorem dX9_nearest_89 : decode cX9_nearest 89 = .ok (.iload_n 3, 1) := by decide +kernel
theorem dX9_nearest_90 : decode cX9_nearest 90 = .ok (.if_icmp .ge 6, 3) := by decide +kernel
theorem dX9_nearest_93 : decode cX9_nearest 93 = .ok (.iload 6, 2) := by decide +kernel
theorem dX9_nearest_95 : decode cX9_nearest 95 = .ok (.istore_n 3, 1) := by decide +kernel
theorem dX9_nearest_96 : decode cX9_nearest 96 = .ok (.iinc 5 1, 3) := by decide +kernel
theorem dX9_nearest_99 : decode cX9_nearest 99 = .ok (.goto (-60), 3) := by decide +kernel
theorem dX9_nearest_102 : decode cX9_nearest 102 = .ok (.iinc 4 1, 3) := by decide +kernel
theorem dX9_nearest_105 : decode cX9_nearest 105 = .ok (.goto (-81), 3) := by decide +kernel
theorem dX9_nearest_108 : decode cX9_nearest 108 = .ok (.iload_n 3, 1) := by decide +kernel
theorem dX9_nearest_109 : decode cX9_nearest 109 = .ok (.ireturn, 1) := by decide +kernel
theorem dX9_slow_0 : decode cX9_slow 0 = .ok (.aload_n 0, 1) := by decide +kernel
theorem dX9_slow_1 : decode cX9_slow 1 = .ok (.iload 4, 2) := by decide +kernel
theorem dX9_slow_3 : decode cX9_slow 3 = .ok (.invokevirtual 254, 3) := by decide +kernel
theorem dX9_slow_6 : decode cX9_slow 6 = .ok (.ifCond .eq 25, 3) := by decide +kernel
theorem dX9_slow_9 : decode cX9_slow 9 = .ok (.iload_n 2, 1) := by decide +kernel
theorem dX9_slow_10 : decode cX9_slow 10 = .ok (.iconst 1, 1) := by decide +kernel
theorem dX9_slow_11 : decode cX9_slow 11 = .ok (.if_icmp .lt 20, 3) := by decide +kernel
theorem dX9_slow_14 : decode cX9_slow 14 = .ok (.iload_n 2, 1) := by decide +kernel
theorem dX9_slow_15 : decode cX9_slow 15 = .ok (.bipush 8, 2) := by decide +kernel
theorem dX9_slow_17 : decode cX9_slow 17 = .ok (.if_icmp .gt 14, 3) := by decide +kernel
theorem dX9_slow_20 : decode cX9_slow 20 = .ok (.iload_n 3, 1) := by decide +kernel
theorem dX9_slow_21 : decode cX9_slow 21 = .ok (.iconst 1, 1) := by decide +kernel
theorem dX9_slow_22 : decode cX9_slow 22 = .ok (.if_icmp .lt 9, 3) := by decide +kernel
theorem dX9_slow_25 : decode cX9_slow 25 = .ok (.iload_n 3, 1) := by decide +kernel
theorem dX9_slow_26 : decode cX9_slow 26 = .ok (.bipush 8, 2) := by decide +kernel
theorem dX9_slow_28 : decode cX9_slow 28 = .ok (.if_icmp .le 6, 3) := by decide +kernel
theorem dX9_slow_31 : decode cX9_slow 31 = .ok (.bipush (-2), 2) := by decide +kernel
theorem dX9_slow_33 : decode cX9_slow 33 = .ok (.ireturn, 1) := by decide +kernel
theorem dX9_slow_34 : decode cX9_slow 34 = .ok (.iload_n 1, 1) := by decide +kernel
theorem dX9_slow_35 : decode cX9_slow 35 = .ok (.ifCond .lt 16, 3) := by decide +kernel
theorem dX9_slow_38 : decode cX9_slow 38 = .ok (.iload_n 1, 1) := by decide +kernel
theorem dX9_slow_39 : decode cX9_slow 39 = .ok (.aload_n 0, 1) := by decide +kernel
theorem dX9_slow_40 : decode cX9_slow 40 = .ok (.getfield 10, 3) := by decide +kernel
theorem dX9_slow_43 : decode cX9_slow 43 = .ok (.getfield 217, 3) := by decide +kernel
theorem dX9_slow_46 : decode cX9_slow 46 = .ok (.iload_n 2, 1) := by decide +kernel
theorem dX9_slow_47 : decode cX9_slow 47 = .ok (.isub, 1) := by decide +kernel
theorem dX9_slow_48 : decode cX9_slow 48 = .ok (.if_icmp .le 6, 3) := by decide +kernel
theorem dX9_slow_51 : decode cX9_slow 51 = .ok (.bipush (-2), 2) := by decide +kernel
theorem dX9_slow_53 : decode cX9_slow 53 = .ok (.ireturn, 1) := by decide +kernel
theorem dX9_slow_54 : decode cX9_slow 54 = .ok (.iconst (-1), 1) := by decide +kernel
theorem dX9_slow_55 : decode cX9_slow 55 = .ok (.istore 5, 2) := by decide +kernel
theorem dX9_slow_57 : decode cX9_slow 57 = .ok (.iconst 0, 1) := by decide +kernel
theorem dX9_slow_58 : decode cX9_slow 58 = .ok (.istore 6, 2) := by decide +kernel
theorem dX9_slow_60 : decode cX9_slow 60 = .ok (.iload 6, 2) := by decide +kernel
theorem dX9_slow_62 : decode cX9_slow 62 = .ok (.iload_n 2, 1) := by decide +kernel
theorem dX9_slow_63 : decode cX9_slow 63 = .ok (.if_icmp .ge 65, 3) := by decide +kernel
theorem dX9_slow_66 : decode cX9_slow 66 = .ok (.aload_n 0, 1) := by decide +kernel
theorem dX9_slow_67 : decode cX9_slow 67 = .ok (.iload_n 1, 1) := by decide +kernel
theorem dX9_slow_68 : decode cX9_slow 68 = .ok (.iload 6, 2) := by decide +kernel
theorem dX9_slow_70 : decode cX9_slow 70 = .ok (.iadd, 1) := by decide +kernel
theorem dX9_slow_71 : decode cX9_slow 71 = .ok (.iload 4, 2) := by decide +kernel
theorem dX9_slow_73 : decode cX9_slow 73 = .ok (.aload_n 0, 1) := by decide +kernel
theorem dX9_slow_74 : decode cX9_slow 74 = .ok (.getfield 10, 3) := by decide +kernel
theorem dX9_slow_77 : decode cX9_slow 77 = .ok (.getfield 238, 3) := by decide +kernel
theorem dX9_slow_80 : decode cX9_slow 80 = .ok (.invokevirtual 298, 3) := by decide +kernel
theorem dX9_slow_83 : decode cX9_slow 83 = .ok (.istore 7, 2) := by decide +kernel
theorem dX9_slow_85 : decode cX9_slow 85 = .ok (.iload 7, 2) := by decide +kernel
theorem dX9_slow_87 : decode cX9_slow 87 = .ok (.iconst (-1), 1) := by decide +kernel
theorem dX9_slow_88 : decode cX9_slow 88 = .ok (.if_icmp .eq 34, 3) := by decide +kernel
theorem dX9_slow_91 : decode cX9_slow 91 = .ok (.iload 7, 2) := by decide +kernel
theorem dX9_slow_93 : decode cX9_slow 93 = .ok (.iload 6, 2) := by decide +kernel
theorem dX9_slow_95 : decode cX9_slow 95 = .ok (.iload_n 2, 1) := by decide +kernel
theorem dX9_slow_96 : decode cX9_slow 96 = .ok (.iload_n 3, 1) := by decide +kernel
theorem dX9_slow_97 : decode cX9_slow 97 = .ok (.invokestatic 326, 3) := by decide +kernel
theorem dX9_slow_100 : decode cX9_slow 100 = .ok (.istore 8, 2) := by decide +kernel
theorem dX9_slow_102 : decode cX9_slow 102 = .ok (.iload 5, 2) := by decide +kernel
theorem dX9_slow_104 : decode cX9_slow 104 = .ok (.iconst (-1), 1) := by decide +kernel
theorem dX9_slow_105 : decode cX9_slow 105 = .ok (.if_icmp .ne 8, 3) := by decide +kernel
theorem dX9_slow_108 : decode cX9_slow 108 = .ok (.iload 8, 2) := by decide +kernel
theorem dX9_slow_110 : decode cX9_slow 110 = .ok (.goto 10, 3) := by decide +kernel
theorem dX9_slow_113 : decode cX9_slow 113 = .ok (.iload 5, 2) := by decide +kernel
theorem dX9_slow_115 : decode cX9_slow 115 = .ok (.iload 8, 2) := by decide +kernel
theorem dX9_slow_117 : decode cX9_slow 117 = .ok (.invokestatic 305, 3) := by decide +kernel
theorem dX9_slow_120 : decode cX9_slow 120 = .ok (.istore 5, 2) := by decide +kernel
theorem dX9_slow_122 : decode cX9_slow 122 = .ok (.iinc 6 1, 3) := by decide +kernel
theorem dX9_slow_125 : decode cX9_slow 125 = .ok (.goto (-65), 3) := by decide +kernel
theorem dX9_slow_128 : decode cX9_slow 128 = .ok (.iload 5, 2) := by decide +kernel
theorem dX9_slow_130 : decode cX9_slow 130 = .ok (.ireturn, 1) := by decide +kernel
theorem dX9_daubTime_0 : decode cX9_daubTime 0 = .ok (.iload_n 3, 1) := by decide +kernel
theorem dX9_daubTime_1 : decode cX9_daubTime 1 = .ok (.iconst 1, 1) := by decide +kernel
theorem dX9_daubTime_2 : decode cX9_daubTime 2 = .ok (.if_icmp .lt 8, 3) := by decide +kernel
theorem dX9_daubTime_5 : decode cX9_daubTime 5 = .ok (.iload_n 2, 1) := by decide +kernel
theorem dX9_daubTime_6 : decode cX9_daubTime 6 = .ok (.iload_n 3, 1) := by decide +kernel
theorem dX9_daubTime_7 : decode cX9_daubTime 7 = .ok (.if_icmp .gt 5, 3) := by decide +kernel
theorem dX9_daubTime_10 : decode cX9_daubTime 10 = .ok (.iload_n 0, 1) := by decide +kernel
theorem dX9_daubTime_11 : decode cX9_daubTime 11 = .ok (.ireturn, 1) := by decide +kernel
theorem dX9_daubTime_12 : decode cX9_daubTime 12 = .ok (.iload_n 0, 1) := by decide +kernel
theorem dX9_daubTime_13 : decode cX9_daubTime 13 = .ok (.iconst 1, 1) := by decide +kernel
theorem dX9_daubTime_14 : decode cX9_daubTime 14 = .ok (.isub, 1) := by decide +kernel
theorem dX9_daubTime_15 : decode cX9_daubTime 15 = .ok (.iload_n 2, 1) := by decide +kernel
theorem dX9_daubTime_16 : decode cX9_daubTime 16 = .ok (.imul, 1) := by decide +kernel
theorem dX9_daubTime_17 : decode cX9_daubTime 17 = .ok (.iload_n 1, 1) := by decide +kernel
theorem dX9_daubTime_18 : decode cX9_daubTime 18 = .ok (.iadd, 1) := by decide +kernel
theorem dX9_daubTime_19 : decode cX9_daubTime 19 = .ok (.iload_n 3, 1) := by decide +kernel
theorem dX9_daubTime_20 : decode cX9_daubTime 20 = .ok (.idiv, 1) := by decide +kernel
theorem dX9_daubTime_21 : decode cX9_daubTime 21 = .ok (.iconst 1, 1) := by decide +kernel
theorem dX9_daubTime_22 : decode cX9_daubTime 22 = .ok (.iadd, 1) := by decide +kernel
theorem dX9_daubTime_23 : decode cX9_daubTime 23 = .ok (.ireturn, 1) := by decide +kernel
theorem dX9_race_0 : decode cX9_race 0 = .ok (.aload_n 0, 1) := by decide +kernel
theorem dX9_race_1 : decode cX9_race 1 = .ok (.iload_n 1, 1) := by decide +kernel
theorem dX9_race_2 : decode cX9_race 2 = .ok (.invokevirtual 254, 3) := by decide +kernel
theorem dX9_race_5 : decode cX9_race 5 = .ok (.ifCond .ne 6, 3) := by decide +kernel
theorem dX9_race_8 : decode cX9_race 8 = .ok (.bipush (-2), 2) := by decide +kernel
theorem dX9_race_10 : decode cX9_race 10 = .ok (.ireturn, 1) := by decide +kernel
theorem dX9_race_11 : decode cX9_race 11 = .ok (.iconst 0, 1) := by decide +kernel
theorem dX9_race_12 : decode cX9_race 12 = .ok (.istore_n 3, 1) := by decide +kernel
theorem dX9_race_13 : decode cX9_race 13 = .ok (.iload_n 3, 1) := by decide +kernel
theorem dX9_race_14 : decode cX9_race 14 = .ok (.aload_n 0, 1) := by decide +kernel
theorem dX9_race_15 : decode cX9_race 15 = .ok (.getfield 10, 3) := by decide +kernel
theorem dX9_race_18 : decode cX9_race 18 = .ok (.getfield 217, 3) := by decide +kernel
theorem dX9_race_21 : decode cX9_race 21 = .ok (.if_icmp .ge 44, 3) := by decide +kernel
theorem dX9_race_24 : decode cX9_race 24 = .ok (.aload_n 0, 1) := by decide +kernel
theorem dX9_race_25 : decode cX9_race 25 = .ok (.iload_n 3, 1) := by decide +kernel
theorem dX9_race_26 : decode cX9_race 26 = .ok (.iload_n 1, 1) := by decide +kernel
theorem dX9_race_27 : decode cX9_race 27 = .ok (.aload_n 0, 1) := by decide +kernel
theorem dX9_race_28 : decode cX9_race 28 = .ok (.getfield 10, 3) := by decide +kernel
theorem dX9_race_31 : decode cX9_race 31 = .ok (.getfield 238, 3) := by decide +kernel
theorem dX9_race_34 : decode cX9_race 34 = .ok (.invokevirtual 298, 3) := by decide +kernel
theorem dX9_race_37 : decode cX9_race 37 = .ok (.istore 4, 2) := by decide +kernel
theorem dX9_race_39 : decode cX9_race 39 = .ok (.iload 4, 2) := by decide +kernel
theorem dX9_race_41 : decode cX9_race 41 = .ok (.iconst (-1), 1) := by decide +kernel
theorem dX9_race_42 : decode cX9_race 42 = .ok (.if_icmp .eq 17, 3) := by decide +kernel
theorem dX9_race_45 : decode cX9_race 45 = .ok (.aload_n 0, 1) := by decide +kernel
theorem dX9_race_46 : decode cX9_race 46 = .ok (.iload_n 3, 1) := by decide +kernel
theorem dX9_race_47 : decode cX9_race 47 = .ok (.iload 4, 2) := by decide +kernel
theorem dX9_race_49 : decode cX9_race 49 = .ok (.iload_n 1, 1) := by decide +kernel
theorem dX9_race_50 : decode cX9_race 50 = .ok (.invokevirtual 330, 3) := by decide +kernel
theorem dX9_race_53 : decode cX9_race 53 = .ok (.iload_n 2, 1) := by decide +kernel
theorem dX9_race_54 : decode cX9_race 54 = .ok (.if_icmp .ne 5, 3) := by decide +kernel
theorem dX9_race_57 : decode cX9_race 57 = .ok (.iload_n 3, 1) := by decide +kernel
theorem dX9_race_58 : decode cX9_race 58 = .ok (.ireturn, 1) := by decide +kernel
theorem dX9_race_59 : decode cX9_race 59 = .ok (.iinc 3 1, 3) := by decide +kernel
theorem dX9_race_62 : decode cX9_race 62 = .ok (.goto (-49), 3) := by decide +kernel
theorem dX9_race_65 : decode cX9_race 65 = .ok (.iconst (-1), 1) := by decide +kernel
theorem dX9_race_66 : decode cX9_race 66 = .ok (.ireturn, 1) := by decide +kernel
theorem dX9_aheadOf_0 : decode cX9_aheadOf 0 = .ok (.iconst 0, 1) := by decide +kernel
theorem dX9_aheadOf_1 : decode cX9_aheadOf 1 = .ok (.istore 4, 2) := by decide +kernel
theorem dX9_aheadOf_3 : decode cX9_aheadOf 3 = .ok (.iconst 0, 1) := by decide +kernel
theorem dX9_aheadOf_4 : decode cX9_aheadOf 4 = .ok (.istore 5, 2) := by decide +kernel
theorem dX9_aheadOf_6 : decode cX9_aheadOf 6 = .ok (.iload 5, 2) := by decide +kernel
theorem dX9_aheadOf_8 : decode cX9_aheadOf 8 = .ok (.aload_n 0, 1) := by decide +kernel
theorem dX9_aheadOf_9 : decode cX9_aheadOf 9 = .ok (.getfield 10, 3) := by decide +kernel
theorem dX9_aheadOf_12 : decode cX9_aheadOf 12 = .ok (.getfield 217, 3) := by decide +kernel
theorem dX9_aheadOf_15 : decode cX9_aheadOf 15 = .ok (.if_icmp .ge 46, 3) := by decide +kernel
theorem dX9_aheadOf_18 : decode cX9_aheadOf 18 = .ok (.aload_n 0, 1) := by decide +kernel
theorem dX9_aheadOf_19 : decode cX9_aheadOf 19 = .ok (.iload 5, 2) := by decide +kernel
theorem dX9_aheadOf_21 : decode cX9_aheadOf 21 = .ok (.iload_n 3, 1) := by decide +kernel
theorem dX9_aheadOf_22 : decode cX9_aheadOf 22 = .ok (.aload_n 0, 1) := by decide +kernel
theorem dX9_aheadOf_23 : decode cX9_aheadOf 23 = .ok (.getfield 10, 3) := by decide +kernel
theorem dX9_aheadOf_26 : decode cX9_aheadOf 26 = .ok (.getfield 238, 3) := by decide +kernel
theorem dX9_aheadOf_29 : decode cX9_aheadOf 29 = .ok (.invokevirtual 298, 3) := by decide +kernel
theorem dX9_aheadOf_32 : decode cX9_aheadOf 32 = .ok (.istore 6, 2) := by decide +kernel
theorem dX9_aheadOf_34 : decode cX9_aheadOf 34 = .ok (.iload 6, 2) := by decide +kernel
theorem dX9_aheadOf_36 : decode cX9_aheadOf 36 = .ok (.iload_n 2, 1) := by decide +kernel
theorem dX9_aheadOf_37 : decode cX9_aheadOf 37 = .ok (.if_icmp .lt 15, 3) := by decide +kernel
theorem dX9_aheadOf_40 : decode cX9_aheadOf 40 = .ok (.iload 6, 2) := by decide +kernel
theorem dX9_aheadOf_42 : decode cX9_aheadOf 42 = .ok (.iload_n 2, 1) := by decide +kernel
theorem dX9_aheadOf_43 : decode cX9_aheadOf 43 = .ok (.if_icmp .ne 12, 3) := by decide +kernel
theorem dX9_aheadOf_46 : decode cX9_aheadOf 46 = .ok (.iload 5, 2) := by decide +kernel
theorem dX9_aheadOf_48 : decode cX9_aheadOf 48 = .ok (.iload_n 1, 1) := by decide +kernel
theorem dX9_aheadOf_49 : decode cX9_aheadOf 49 = .ok (.if_icmp .ge 6, 3) := by decide +kernel
theorem dX9_aheadOf_52 : decode cX9_aheadOf 52 = .ok (.iinc 4 1, 3) := by decide +kernel
theorem dX9_aheadOf_55 : decode cX9_aheadOf 55 = .ok (.iinc 5 1, 3) := by decide +kernel
theorem dX9_aheadOf_58 : decode cX9_aheadOf 58 = .ok (.goto (-52), 3) := by decide +kernel
theorem dX9_aheadOf_61 : decode cX9_aheadOf 61 = .ok (.iload 4, 2) := by decide +kernel
theorem dX9_aheadOf_63 : decode cX9_aheadOf 63 = .ok (.ireturn, 1) := by decide +kernel
theorem dX9_share_0 : decode cX9_share 0 = .ok (.aload_n 0, 1) := by decide +kernel
theorem dX9_share_1 : decode cX9_share 1 = .ok (.invokevirtual 133, 3) := by decide +kernel
theorem dX9_share_4 : decode cX9_share 4 = .ok (.ifCond .eq 14, 3) := by decide +kernel
theorem dX9_share_7 : decode cX9_share 7 = .ok (.aload_n 0, 1) := by decide +kernel
theorem dX9_share_8 : decode cX9_share 8 = .ok (.getfield 44, 3) := by decide +kernel
theorem dX9_share_11 : decode cX9_share 11 = .ok (.iload_n 1, 1) := by decide +kernel
theorem dX9_share_12 : decode cX9_share 12 = .ok (.invokevirtual 149, 3) := by decide +kernel
theorem dX9_share_15 : decode cX9_share 15 = .ok (.ifCond .ne 6, 3) := by decide +kernel
theorem dX9_share_18 : decode cX9_share 18 = .ok (.bipush (-2), 2) := by decide +kernel
theorem dX9_share_20 : decode cX9_share 20 = .ok (.ireturn, 1) := by decide +kernel
theorem dX9_share_21 : decode cX9_share 21 = .ok (.aload_n 0, 1) := by decide +kernel
theorem dX9_share_22 : decode cX9_share 22 = .ok (.getfield 44, 3) := by decide +kernel
theorem dX9_share_25 : decode cX9_share 25 = .ok (.iload_n 1, 1) := by decide +kernel
theorem dX9_share_26 : decode cX9_share 26 = .ok (.invokevirtual 152, 3) := by decide +kernel
theorem dX9_share_29 : decode cX9_share 29 = .ok (.ifCond .ne 6, 3) := by decide +kernel
theorem dX9_share_32 : decode cX9_share 32 = .ok (.bipush (-6), 2) := by decide +kernel
theorem dX9_share_34 : decode cX9_share 34 = .ok (.ireturn, 1) := by decide +kernel
theorem dX9_share_35 : decode cX9_share 35 = .ok (.aload_n 0, 1) := by decide +kernel
theorem dX9_share_36 : decode cX9_share 36 = .ok (.iload_n 1, 1) := by decide +kernel
theorem dX9_share_37 : decode cX9_share 37 = .ok (.invokevirtual 333, 3) := by decide +kernel
theorem dX9_share_40 : decode cX9_share 40 = .ok (.lstore_n 3, 1) := by decide +kernel
theorem dX9_share_41 : decode cX9_share 41 = .ok (.lload_n 3, 1) := by decide +kernel
theorem dX9_share_42 : decode cX9_share 42 = .ok (.lconst 1, 1) := by decide +kernel
theorem dX9_share_43 : decode cX9_share 43 = .ok (.lcmp, 1) := by decide +kernel
theorem dX9_share_44 : decode cX9_share 44 = .ok (.ifCond .ge 6, 3) := by decide +kernel
theorem dX9_share_47 : decode cX9_share 47 = .ok (.bipush (-2), 2) := by decide +kernel
theorem dX9_share_49 : decode cX9_share 49 = .ok (.ireturn, 1) := by decide +kernel
theorem dX9_share_50 : decode cX9_share 50 = .ok (.iload_n 2, 1) := by decide +kernel
theorem dX9_share_51 : decode cX9_share 51 = .ok (.ifCond .lt 15, 3) := by decide +kernel
theorem dX9_share_54 : decode cX9_share 54 = .ok (.iload_n 2, 1) := by decide +kernel
theorem dX9_share_55 : decode cX9_share 55 = .ok (.aload_n 0, 1) := by decide +kernel
theorem dX9_share_56 : decode cX9_share 56 = .ok (.getfield 44, 3) := by decide +kernel
theorem dX9_share_59 : decode cX9_share 59 = .ok (.iload_n 1, 1) := by decide +kernel
theorem dX9_share_60 : decode cX9_share 60 = .ok (.invokevirtual 155, 3) := by decide +kernel
theorem dX9_share_63 : decode cX9_share 63 = .ok (.if_icmp .lt 5, 3) := by decide +kernel
theorem dX9_share_66 : decode cX9_share 66 = .ok (.iconst (-1), 1) := by decide +kernel
theorem dX9_share_67 : decode cX9_share 67 = .ok (.ireturn, 1) := by decide +kernel
theorem dX9_share_68 : decode cX9_share 68 = .ok (.aload_n 0, 1) := by decide +kernel
theorem dX9_share_69 : decode cX9_share 69 = .ok (.invokevirtual 337, 3) := by decide +kernel
theorem dX9_share_72 : decode cX9_share 72 = .ok (.lstore 5, 2) := by decide +kernel
theorem dX9_share_74 : decode cX9_share 74 = .ok (.lload 5, 2) := by decide +kernel
theorem dX9_share_76 : decode cX9_share 76 = .ok (.lstore 7, 2) := by decide +kernel
theorem dX9_share_78 : decode cX9_share 78 = .ok (.iconst 0, 1) := by decide +kernel
theorem dX9_share_79 : decode cX9_share 79 = .ok (.istore 9, 2) := by decide +kernel
theorem dX9_share_81 : decode cX9_share 81 = .ok (.iload 9, 2) := by decide +kernel
theorem dX9_share_83 : decode cX9_share 83 = .ok (.aload_n 0, 1) := by decide +kernel
theorem dX9_share_84 : decode cX9_share 84 = .ok (.getfield 44, 3) := by decide +kernel
theorem dX9_share_87 : decode cX9_share 87 = .ok (.iload_n 1, 1) := by decide +kernel
theorem dX9_share_88 : decode cX9_share 88 = .ok (.invokevirtual 155, 3) := by decide +kernel
theorem dX9_share_91 : decode cX9_share 91 = .ok (.if_icmp .ge 29, 3) := by decide +kernel
theorem dX9_share_94 : decode cX9_share 94 = .ok (.lload 7, 2) := by decide +kernel
theorem dX9_share_96 : decode cX9_share 96 = .ok (.lload 5, 2) := by decide +kernel
theorem dX9_share_98 : decode cX9_share 98 = .ok (.aload_n 0, 1) := by decide +kernel
theorem dX9_share_99 : decode cX9_share 99 = .ok (.getfield 44, 3) := by decide +kernel
theorem dX9_share_102 : decode cX9_share 102 = .ok (.iload_n 1, 1) := by decide +kernel
theorem dX9_share_103 : decode cX9_share 103 = .ok (.iload 9, 2) := by decide +kernel
theorem dX9_share_105 : decode cX9_share 105 = .ok (.invokevirtual 162, 3) := by decide +kernel
theorem dX9_share_108 : decode cX9_share 108 = .ok (.lmul, 1) := by decide +kernel
theorem dX9_share_109 : decode cX9_share 109 = .ok (.lload_n 3, 1) := by decide +kernel
theorem dX9_share_110 : decode cX9_share 110 = .ok (.ldiv, 1) := by decide +kernel
theorem dX9_share_111 : decode cX9_share 111 = .ok (.lsub, 1) := by decide +kernel
theorem dX9_share_112 : decode cX9_share 112 = .ok (.lstore 7, 2) := by decide +kernel
theorem dX9_share_114 : decode cX9_share 114 = .ok (.iinc 9 1, 3) := by decide +kernel
theorem dX9_share_117 : decode cX9_share 117 = .ok (.goto (-36), 3) := by decide +kernel
theorem dX9_share_120 : decode cX9_share 120 = .ok (.lload 5, 2) := by decide +kernel
theorem dX9_share_122 : decode cX9_share 122 = .ok (.aload_n 0, 1) := by decide +kernel
theorem dX9_share_123 : decode cX9_share 123 = .ok (.getfield 44, 3) := by decide +kernel
theorem dX9_share_126 : decode cX9_share 126 = .ok (.iload_n 1, 1) := by decide +kernel
theorem dX9_share_127 : decode cX9_share 127 = .ok (.iload_n 2, 1) := by decide +kernel
theorem dX9_share_128 : decode cX9_share 128 = .ok (.invokevirtual 162, 3) := by decide +kernel
theorem dX9_share_131 : decode cX9_share 131 = .ok (.lmul, 1) := by decide +kernel
theorem dX9_share_132 : decode cX9_share 132 = .ok (.lload_n 3, 1) := by decide +kernel
theorem dX9_share_133 : decode cX9_share 133 = .ok (.ldiv, 1) := by decide +kernel
theorem dX9_share_134 : decode cX9_share 134 = .ok (.lstore 9, 2) := by decide +kernel
theorem dX9_share_136 : decode cX9_share 136 = .ok (.iload_n 2, 1) := by decide +kernel
theorem dX9_share_137 : decode cX9_share 137 = .ok (.ifCond .ne 11, 3) := by decide +kernel
theorem dX9_share_140 : decode cX9_share 140 = .ok (.lload 9, 2) := by decide +kernel
theorem dX9_share_142 : decode cX9_share 142 = .ok (.lload 7, 2) := by decide +kernel
theorem dX9_share_144 : decode cX9_share 144 = .ok (.ladd, 1) := by decide +kernel
theorem dX9_share_145 : decode cX9_share 145 = .ok (.goto 5, 3) := by decide +kernel
theorem dX9_share_148 : decode cX9_share 148 = .ok (.lload 9, 2) := by decide +kernel
theorem dX9_share_150 : decode cX9_share 150 = .ok (.l2i, 1) := by decide +kernel
theorem dX9_share_151 : decode cX9_share 151 = .ok (.ireturn, 1) := by decide +kernel
theorem dX9_paidInAll_0 : decode cX9_paidInAll 0 = .ok (.aload_n 0, 1) := by decide +kernel
theorem dX9_paidInAll_1 : decode cX9_paidInAll 1 = .ok (.getfield 44, 3) := by decide +kernel
theorem dX9_paidInAll_4 : decode cX9_paidInAll 4 = .ok (.iload_n 1, 1) := by decide +kernel
theorem dX9_paidInAll_5 : decode cX9_paidInAll 5 = .ok (.invokevirtual 155, 3) := by decide +kernel
theorem dX9_paidInAll_8 : decode cX9_paidInAll 8 = .ok (.istore_n 2, 1) := by decide +kernel
theorem dX9_paidInAll_9 : decode cX9_paidInAll 9 = .ok (.iload_n 2, 1) := by decide +kernel
theorem dX9_paidInAll_10 : decode cX9_paidInAll 10 = .ok (.bipush 8, 2) := by decide +kernel
theorem dX9_paidInAll_12 : decode cX9_paidInAll 12 = .ok (.if_icmp .le 5, 3) := by decide +kernel
theorem dX9_paidInAll_15 : decode cX9_paidInAll 15 = .ok (.lconst 0, 1) := by decide +kernel
theorem dX9_paidInAll_16 : decode cX9_paidInAll 16 = .ok (.lreturn, 1) := by decide +kernel
theorem dX9_paidInAll_17 : decode cX9_paidInAll 17 = .ok (.lconst 0, 1) := by decide +kernel
theorem dX9_paidInAll_18 : decode cX9_paidInAll 18 = .ok (.lstore_n 3, 1) := by decide +kernel
theorem dX9_paidInAll_19 : decode cX9_paidInAll 19 = .ok (.iconst 0, 1) := by decide +kernel
theorem dX9_paidInAll_20 : decode cX9_paidInAll 20 = .ok (.istore 5, 2) := by decide +kernel
theorem dX9_paidInAll_22 : decode cX9_paidInAll 22 = .ok (.iload 5, 2) := by decide +kernel
theorem dX9_paidInAll_24 : decode cX9_paidInAll 24 = .ok (.iload_n 2, 1) := by decide +kernel
theorem dX9_paidInAll_25 : decode cX9_paidInAll 25 = .ok (.if_icmp .ge 44, 3) := by decide +kernel
theorem dX9_paidInAll_28 : decode cX9_paidInAll 28 = .ok (.aload_n 0, 1) := by decide +kernel
theorem dX9_paidInAll_29 : decode cX9_paidInAll 29 = .ok (.getfield 44, 3) := by decide +kernel
theorem dX9_paidInAll_32 : decode cX9_paidInAll 32 = .ok (.iload_n 1, 1) := by decide +kernel
theorem dX9_paidInAll_33 : decode cX9_paidInAll 33 = .ok (.iload 5, 2) := by decide +kernel
theorem dX9_paidInAll_35 : decode cX9_paidInAll 35 = .ok (.invokevirtual 162, 3) := by decide +kernel
theorem dX9_paidInAll_38 : decode cX9_paidInAll 38 = .ok (.lstore 6, 2) := by decide +kernel
theorem dX9_paidInAll_40 : decode cX9_paidInAll 40 = .ok (.lload 6, 2) := by decide +kernel
theorem dX9_paidInAll_42 : decode cX9_paidInAll 42 = .ok (.lconst 1, 1) := by decide +kernel
theorem dX9_paidInAll_43 : decode cX9_paidInAll 43 = .ok (.lcmp, 1) := by decide +kernel
theorem dX9_paidInAll_44 : decode cX9_paidInAll 44 = .ok (.ifCond .lt 12, 3) := by decide +kernel
theorem dX9_paidInAll_47 : decode cX9_paidInAll 47 = .ok (.lload 6, 2) := by decide +kernel
theorem dX9_paidInAll_49 : decode cX9_paidInAll 49 = .ok (.ldc2_w 341, 3) := by decide +kernel
theorem dX9_paidInAll_52 : decode cX9_paidInAll 52 = .ok (.lcmp, 1) := by decide +kernel
theorem dX9_paidInAll_53 : decode cX9_paidInAll 53 = .ok (.ifCond .le 5, 3) := by decide +kernel
theorem dX9_paidInAll_56 : decode cX9_paidInAll 56 = .ok (.lconst 0, 1) := by decide +kernel
theorem dX9_paidInAll_57 : decode cX9_paidInAll 57 = .ok (.lreturn, 1) := by decide +kernel
theorem dX9_paidInAll_58 : decode cX9_paidInAll 58 = .ok (.lload_n 3, 1) := by decide +kernel
theorem dX9_paidInAll_59 : decode cX9_paidInAll 59 = .ok (.lload 6, 2) := by decide +kernel
theorem dX9_paidInAll_61 : decode cX9_paidInAll 61 = .ok (.ladd, 1) := by decide +kernel
theorem dX9_paidInAll_62 : decode cX9_paidInAll 62 = .ok (.lstore_n 3, 1) := by decide +kernel
theorem dX9_paidInAll_63 : decode cX9_paidInAll 63 = .ok (.iinc 5 1, 3) := by decide +kernel
theorem dX9_paidInAll_66 : decode cX9_paidInAll 66 = .ok (.goto (-44), 3) := by decide +kernel
theorem dX9_paidInAll_69 : decode cX9_paidInAll 69 = .ok (.lload_n 3, 1) := by decide +kernel
theorem dX9_paidInAll_70 : decode cX9_paidInAll 70 = .ok (.lreturn, 1) := by decide +kernel
theorem dX9_chance_0 : decode cX9_chance 0 = .ok (.aload_n 0, 1) := by decide +kernel
theorem dX9_chance_1 : decode cX9_chance 1 = .ok (.iload_n 1, 1) := by decide +kernel
theorem dX9_chance_2 : decode cX9_chance 2 = .ok (.invokevirtual 254, 3) := by decide +kernel
theorem dX9_chance_5 : decode cX9_chance 5 = .ok (.ifCond .eq 18, 3) := by decide +kernel
theorem dX9_chance_8 : decode cX9_chance 8 = .ok (.aload_n 0, 1) := by decide +kernel
theorem dX9_chance_9 : decode cX9_chance 9 = .ok (.iload_n 2, 1) := by decide +kernel
theorem dX9_chance_10 : decode cX9_chance 10 = .ok (.invokevirtual 241, 3) := by decide +kernel
theorem dX9_chance_13 : decode cX9_chance 13 = .ok (.ifCond .eq 10, 3) := by decide +kernel
theorem dX9_chance_16 : decode cX9_chance 16 = .ok (.iload_n 3, 1) := by decide +kernel
theorem dX9_chance_17 : decode cX9_chance 17 = .ok (.invokestatic 343, 3) := by decide +kernel
theorem dX9_chance_20 : decode cX9_chance 20 = .ok (.ifCond .ne 7, 3) := by decide +kernel
theorem dX9_chance_23 : decode cX9_chance 23 = .ok (.ldc2_w 346, 3) := by decide +kernel
theorem dX9_chance_26 : decode cX9_chance 26 = .ok (.lreturn, 1) := by decide +kernel
theorem dX9_chance_27 : decode cX9_chance 27 = .ok (.aload_n 0, 1) := by decide +kernel
theorem dX9_chance_28 : decode cX9_chance 28 = .ok (.getfield 10, 3) := by decide +kernel
theorem dX9_chance_31 : decode cX9_chance 31 = .ok (.getfield 98, 3) := by decide +kernel
theorem dX9_chance_34 : decode cX9_chance 34 = .ok (.astore 4, 2) := by decide +kernel
theorem dX9_chance_36 : decode cX9_chance 36 = .ok (.iload_n 1, 1) := by decide +kernel
theorem dX9_chance_37 : decode cX9_chance 37 = .ok (.iconst 2, 1) := by decide +kernel
theorem dX9_chance_38 : decode cX9_chance 38 = .ok (.if_icmp .ne 7, 3) := by decide +kernel
theorem dX9_chance_41 : decode cX9_chance 41 = .ok (.iconst 1, 1) := by decide +kernel
theorem dX9_chance_42 : decode cX9_chance 42 = .ok (.goto 8, 3) := by decide +kernel
theorem dX9_chance_45 : decode cX9_chance 45 = .ok (.aload 4, 2) := by decide +kernel
theorem dX9_chance_47 : decode cX9_chance 47 = .ok (.getfield 166, 3) := by decide +kernel
theorem dX9_chance_50 : decode cX9_chance 50 = .ok (.istore 5, 2) := by decide +kernel
theorem dX9_chance_52 : decode cX9_chance 52 = .ok (.iload_n 1, 1) := by decide +kernel
theorem dX9_chance_53 : decode cX9_chance 53 = .ok (.iconst 2, 1) := by decide +kernel
theorem dX9_chance_54 : decode cX9_chance 54 = .ok (.if_icmp .ne 17, 3) := by decide +kernel
theorem dX9_chance_57 : decode cX9_chance 57 = .ok (.aload 4, 2) := by decide +kernel
theorem dX9_chance_59 : decode cX9_chance 59 = .ok (.getfield 166, 3) := by decide +kernel
theorem dX9_chance_62 : decode cX9_chance 62 = .ok (.aload 4, 2) := by decide +kernel
theorem dX9_chance_64 : decode cX9_chance 64 = .ok (.getfield 348, 3) := by decide +kernel
theorem dX9_chance_67 : decode cX9_chance 67 = .ok (.imul, 1) := by decide +kernel
theorem dX9_chance_68 : decode cX9_chance 68 = .ok (.goto 8, 3) := by decide +kernel
theorem dX9_chance_71 : decode cX9_chance 71 = .ok (.aload 4, 2) := by decide +kernel
theorem dX9_chance_73 : decode cX9_chance 73 = .ok (.getfield 348, 3) := by decide +kernel
theorem dX9_chance_76 : decode cX9_chance 76 = .ok (.istore 6, 2) := by decide +kernel
theorem dX9_chance_78 : decode cX9_chance 78 = .ok (.aload 4, 2) := by decide +kernel
theorem dX9_chance_80 : decode cX9_chance 80 = .ok (.getfield 136, 3) := by decide +kernel
theorem dX9_chance_83 : decode cX9_chance 83 = .ok (.iload_n 2, 1) := by decide +kernel
theorem dX9_chance_84 : decode cX9_chance 84 = .ok (.iload 5, 2) := by decide +kernel
theorem dX9_chance_86 : decode cX9_chance 86 = .ok (.iload 6, 2) := by decide +kernel
theorem dX9_chance_88 : decode cX9_chance 88 = .ok (.iload_n 1, 1) := by decide +kernel
theorem dX9_chance_89 : decode cX9_chance 89 = .ok (.iconst 1, 1) := by decide +kernel
theorem dX9_chance_90 : decode cX9_chance 90 = .ok (.if_icmp .ne 7, 3) := by decide +kernel
theorem dX9_chance_93 : decode cX9_chance 93 = .ok (.iconst 2, 1) := by decide +kernel
theorem dX9_chance_94 : decode cX9_chance 94 = .ok (.goto 4, 3) := by decide +kernel
theorem dX9_chance_97 : decode cX9_chance 97 = .ok (.iconst 1, 1) := by decide +kernel
theorem dX9_chance_98 : decode cX9_chance 98 = .ok (.invokestatic 351, 3) := by decide +kernel
theorem dX9_chance_101 : decode cX9_chance 101 = .ok (.lstore 7, 2) := by decide +kernel
theorem dX9_chance_103 : decode cX9_chance 103 = .ok (.lload 7, 2) := by decide +kernel
theorem dX9_chance_105 : decode cX9_chance 105 = .ok (.aload 4, 2) := by decide +kernel
theorem dX9_chance_107 : decode cX9_chance 107 = .ok (.getfield 136, 3) := by decide +kernel
theorem dX9_chance_110 : decode cX9_chance 110 = .ok (.iload_n 2, 1) := by decide +kernel
theorem dX9_chance_111 : decode cX9_chance 111 = .ok (.invokestatic 357, 3) := by decide +kernel
theorem dX9_chance_114 : decode cX9_chance 114 = .ok (.iload_n 3, 1) := by decide +kernel
theorem dX9_chance_115 : decode cX9_chance 115 = .ok (.invokestatic 360, 3) := by decide +kernel
theorem dX9_chance_118 : decode cX9_chance 118 = .ok (.lreturn, 1) := by decide +kernel
theorem dX9_some_0 : decode cX9_some 0 = .ok (.aload_n 0, 1) := by decide +kernel
theorem dX9_some_1 : decode cX9_some 1 = .ok (.iload_n 1, 1) := by decide +kernel
theorem dX9_some_2 : decode cX9_some 2 = .ok (.invokevirtual 254, 3) := by decide +kernel
theorem dX9_some_5 : decode cX9_some 5 = .ok (.ifCond .eq 23, 3) := by decide +kernel
theorem dX9_some_8 : decode cX9_some 8 = .ok (.iload_n 1, 1) := by decide +kernel
theorem dX9_some_9 : decode cX9_some 9 = .ok (.iconst 1, 1) := by decide +kernel
theorem dX9_some_10 : decode cX9_some 10 = .ok (.if_icmp .eq 18, 3) := by decide +kernel
theorem dX9_some_13 : decode cX9_some 13 = .ok (.aload_n 0, 1) := by decide +kernel
theorem dX9_some_14 : decode cX9_some 14 = .ok (.iload_n 2, 1) := by decide +kernel
theorem dX9_some_15 : decode cX9_some 15 = .ok (.invokevirtual 241, 3) := by decide +kernel
theorem dX9_some_18 : decode cX9_some 18 = .ok (.ifCond .eq 10, 3) := by decide +kernel
theorem dX9_some_21 : decode cX9_some 21 = .ok (.iload_n 3, 1) := by decide +kernel
theorem dX9_some_22 : decode cX9_some 22 = .ok (.invokestatic 343, 3) := by decide +kernel
theorem dX9_some_25 : decode cX9_some 25 = .ok (.ifCond .ne 7, 3) := by decide +kernel
theorem dX9_some_28 : decode cX9_some 28 = .ok (.ldc2_w 346, 3) := by decide +kernel
theorem dX9_some_31 : decode cX9_some 31 = .ok (.lreturn, 1) := by decide +kernel
theorem dX9_some_32 : decode cX9_some 32 = .ok (.aload_n 0, 1) := by decide +kernel
theorem dX9_some_33 : decode cX9_some 33 = .ok (.iload_n 1, 1) := by decide +kernel
theorem dX9_some_34 : decode cX9_some 34 = .ok (.iload_n 2, 1) := by decide +kernel
theorem dX9_some_35 : decode cX9_some 35 = .ok (.invokevirtual 364, 3) := by decide +kernel
theorem dX9_some_38 : decode cX9_some 38 = .ok (.aload_n 0, 1) := by decide +kernel
theorem dX9_some_39 : decode cX9_some 39 = .ok (.getfield 10, 3) := by decide +kernel
theorem dX9_some_42 : decode cX9_some 42 = .ok (.getfield 98, 3) := by decide +kernel
theorem dX9_some_45 : decode cX9_some 45 = .ok (.getfield 136, 3) := by decide +kernel
theorem dX9_some_48 : decode cX9_some 48 = .ok (.iload_n 2, 1) := by decide +kernel
theorem dX9_some_49 : decode cX9_some 49 = .ok (.invokestatic 357, 3) := by decide +kernel
theorem dX9_some_52 : decode cX9_some 52 = .ok (.iload_n 3, 1) := by decide +kernel
theorem dX9_some_53 : decode cX9_some 53 = .ok (.invokestatic 360, 3) := by decide +kernel
theorem dX9_some_56 : decode cX9_some 56 = .ok (.lreturn, 1) := by decide +kernel
theorem dX9_just_0 : decode cX9_just 0 = .ok (.aload_n 0, 1) := by decide +kernel
theorem dX9_just_1 : decode cX9_just 1 = .ok (.iload_n 1, 1) := by decide +kernel
theorem dX9_just_2 : decode cX9_just 2 = .ok (.invokevirtual 254, 3) := by decide +kernel
theorem dX9_just_5 : decode cX9_just 5 = .ok (.ifCond .eq 27, 3) := by decide +kernel
theorem dX9_just_8 : decode cX9_just 8 = .ok (.iload_n 1, 1) := by decide +kernel
theorem dX9_just_9 : decode cX9_just 9 = .ok (.iconst 1, 1) := by decide +kernel
theorem dX9_just_10 : decode cX9_just 10 = .ok (.if_icmp .eq 22, 3) := by decide +kernel
theorem dX9_just_13 : decode cX9_just 13 = .ok (.aload_n 0, 1) := by decide +kernel
theorem dX9_just_14 : decode cX9_just 14 = .ok (.iload_n 2, 1) := by decide +kernel
theorem dX9_just_15 : decode cX9_just 15 = .ok (.invokevirtual 241, 3) := by decide +kernel
theorem dX9_just_18 : decode cX9_just 18 = .ok (.ifCond .eq 14, 3) := by decide +kernel
theorem dX9_just_21 : decode cX9_just 21 = .ok (.iload_n 2, 1) := by decide +kernel
theorem dX9_just_22 : decode cX9_just 22 = .ok (.ifCond .eq 10, 3) := by decide +kernel
theorem dX9_just_25 : decode cX9_just 25 = .ok (.iload_n 3, 1) := by decide +kernel
theorem dX9_just_26 : decode cX9_just 26 = .ok (.invokestatic 343, 3) := by decide +kernel
theorem dX9_just_29 : decode cX9_just 29 = .ok (.ifCond .ne 7, 3) := by decide +kernel
theorem dX9_just_32 : decode cX9_just 32 = .ok (.ldc2_w 346, 3) := by decide +kernel
theorem dX9_just_35 : decode cX9_just 35 = .ok (.lreturn, 1) := by decide +kernel
theorem dX9_just_36 : decode cX9_just 36 = .ok (.aload_n 0, 1) := by decide +kernel
theorem dX9_just_37 : decode cX9_just 37 = .ok (.iload_n 1, 1) := by decide +kernel
theorem dX9_just_38 : decode cX9_just 38 = .ok (.iload_n 2, 1) := by decide +kernel
theorem dX9_just_39 : decode cX9_just 39 = .ok (.invokevirtual 364, 3) := by decide +kernel
theorem dX9_just_42 : decode cX9_just 42 = .ok (.iload_n 2, 1) := by decide +kernel
theorem dX9_just_43 : decode cX9_just 43 = .ok (.i2l, 1) := by decide +kernel
theorem dX9_just_44 : decode cX9_just 44 = .ok (.lmul, 1) := by decide +kernel
theorem dX9_just_45 : decode cX9_just 45 = .ok (.aload_n 0, 1) := by decide +kernel
theorem dX9_just_46 : decode cX9_just 46 = .ok (.iload_n 1, 1) := by decide +kernel
theorem dX9_just_47 : decode cX9_just 47 = .ok (.iload_n 2, 1) := by decide +kernel
theorem dX9_just_48 : decode cX9_just 48 = .ok (.iconst 1, 1) := by decide +kernel
theorem dX9_just_49 : decode cX9_just 49 = .ok (.isub, 1) := by decide +kernel
theorem dX9_just_50 : decode cX9_just 50 = .ok (.invokevirtual 364, 3) := by decide +kernel
theorem dX9_just_53 : decode cX9_just 53 = .ok (.aload_n 0, 1) := by decide +kernel
theorem dX9_just_54 : decode cX9_just 54 = .ok (.getfield 10, 3) := by decide +kernel
theorem dX9_just_57 : decode cX9_just 57 = .ok (.getfield 98, 3) := by decide +kernel
theorem dX9_just_60 : decode cX9_just 60 = .ok (.getfield 136, 3) := by decide +kernel
theorem dX9_just_63 : decode cX9_just 63 = .ok (.iload_n 2, 1) := by decide +kernel
theorem dX9_just_64 : decode cX9_just 64 = .ok (.isub, 1) := by decide +kernel
theorem dX9_just_65 : decode cX9_just 65 = .ok (.iconst 1, 1) := by decide +kernel
theorem dX9_just_66 : decode cX9_just 66 = .ok (.iadd, 1) := by decide +kernel
theorem dX9_just_67 : decode cX9_just 67 = .ok (.i2l, 1) := by decide +kernel
theorem dX9_just_68 : decode cX9_just 68 = .ok (.lmul, 1) := by decide +kernel
theorem dX9_just_69 : decode cX9_just 69 = .ok (.lsub, 1) := by decide +kernel
theorem dX9_just_70 : decode cX9_just 70 = .ok (.lstore 4, 2) := by decide +kernel
theorem dX9_just_72 : decode cX9_just 72 = .ok (.lload 4, 2) := by decide +kernel
theorem dX9_just_74 : decode cX9_just 74 = .ok (.aload_n 0, 1) := by decide +kernel
theorem dX9_just_75 : decode cX9_just 75 = .ok (.getfield 10, 3) := by decide +kernel
theorem dX9_just_78 : decode cX9_just 78 = .ok (.getfield 98, 3) := by decide +kernel
theorem dX9_just_81 : decode cX9_just 81 = .ok (.getfield 136, 3) := by decide +kernel
theorem dX9_just_84 : decode cX9_just 84 = .ok (.iload_n 2, 1) := by decide +kernel
theorem dX9_just_85 : decode cX9_just 85 = .ok (.invokestatic 357, 3) := by decide +kernel
theorem dX9_just_88 : decode cX9_just 88 = .ok (.iload_n 2, 1) := by decide +kernel
theorem dX9_just_89 : decode cX9_just 89 = .ok (.i2l, 1) := by decide +kernel
theorem dX9_just_90 : decode cX9_just 90 = .ok (.lmul, 1) := by decide +kernel
theorem dX9_just_91 : decode cX9_just 91 = .ok (.iload_n 3, 1) := by decide +kernel
theorem dX9_just_92 : decode cX9_just 92 = .ok (.invokestatic 360, 3) := by decide +kernel
theorem dX9_just_95 : decode cX9_just 95 = .ok (.lreturn, 1) := by decide +kernel
theorem dX9_likely_0 : decode cX9_likely 0 = .ok (.aload_n 0, 1) := by decide +kernel
theorem dX9_likely_1 : decode cX9_likely 1 = .ok (.iload_n 1, 1) := by decide +kernel
theorem dX9_likely_2 : decode cX9_likely 2 = .ok (.invokevirtual 254, 3) := by decide +kernel
theorem dX9_likely_5 : decode cX9_likely 5 = .ok (.ifCond .eq 31, 3) := by decide +kernel
theorem dX9_likely_8 : decode cX9_likely 8 = .ok (.iload_n 1, 1) := by decide +kernel
theorem dX9_likely_9 : decode cX9_likely 9 = .ok (.iconst 1, 1) := by decide +kernel
theorem dX9_likely_10 : decode cX9_likely 10 = .ok (.if_icmp .eq 26, 3) := by decide +kernel
theorem dX9_likely_13 : decode cX9_likely 13 = .ok (.iload_n 2, 1) := by decide +kernel
theorem dX9_likely_14 : decode cX9_likely 14 = .ok (.ifCond .lt 22, 3) := by decide +kernel
theorem dX9_likely_17 : decode cX9_likely 17 = .ok (.iload_n 2, 1) := by decide +kernel
theorem dX9_likely_18 : decode cX9_likely 18 = .ok (.sipush 1000, 3) := by decide +kernel
theorem dX9_likely_21 : decode cX9_likely 21 = .ok (.if_icmp .gt 15, 3) := by decide +kernel
theorem dX9_likely_24 : decode cX9_likely 24 = .ok (.iload_n 3, 1) := by decide +kernel
theorem dX9_likely_25 : decode cX9_likely 25 = .ok (.iconst 1, 1) := by decide +kernel
theorem dX9_likely_26 : decode cX9_likely 26 = .ok (.if_icmp .lt 10, 3) := by decide +kernel
theorem dX9_likely_29 : decode cX9_likely 29 = .ok (.iload_n 3, 1) := by decide +kernel
theorem dX9_likely_30 : decode cX9_likely 30 = .ok (.sipush 1000, 3) := by decide +kernel
theorem dX9_likely_33 : decode cX9_likely 33 = .ok (.if_icmp .le 6, 3) := by decide +kernel
theorem dX9_likely_36 : decode cX9_likely 36 = .ok (.bipush (-2), 2) := by decide +kernel
theorem dX9_likely_38 : decode cX9_likely 38 = .ok (.ireturn, 1) := by decide +kernel
theorem dX9_likely_39 : decode cX9_likely 39 = .ok (.iconst 0, 1) := by decide +kernel
theorem dX9_likely_40 : decode cX9_likely 40 = .ok (.istore 4, 2) := by decide +kernel
theorem dX9_likely_42 : decode cX9_likely 42 = .ok (.iload 4, 2) := by decide +kernel
theorem dX9_likely_44 : decode cX9_likely 44 = .ok (.aload_n 0, 1) := by decide +kernel
theorem dX9_likely_45 : decode cX9_likely 45 = .ok (.getfield 10, 3) := by decide +kernel
theorem dX9_likely_48 : decode cX9_likely 48 = .ok (.getfield 98, 3) := by decide +kernel
theorem dX9_likely_51 : decode cX9_likely 51 = .ok (.getfield 136, 3) := by decide +kernel
theorem dX9_likely_54 : decode cX9_likely 54 = .ok (.if_icmp .gt 44, 3) := by decide +kernel
theorem dX9_likely_57 : decode cX9_likely 57 = .ok (.aload_n 0, 1) := by decide +kernel
theorem dX9_likely_58 : decode cX9_likely 58 = .ok (.iload_n 1, 1) := by decide +kernel
theorem dX9_likely_59 : decode cX9_likely 59 = .ok (.iload 4, 2) := by decide +kernel
theorem dX9_likely_61 : decode cX9_likely 61 = .ok (.invokevirtual 364, 3) := by decide +kernel
theorem dX9_likely_64 : decode cX9_likely 64 = .ok (.iload_n 3, 1) := by decide +kernel
theorem dX9_likely_65 : decode cX9_likely 65 = .ok (.i2l, 1) := by decide +kernel
theorem dX9_likely_66 : decode cX9_likely 66 = .ok (.lmul, 1) := by decide +kernel
theorem dX9_likely_67 : decode cX9_likely 67 = .ok (.iload_n 2, 1) := by decide +kernel
theorem dX9_likely_68 : decode cX9_likely 68 = .ok (.i2l, 1) := by decide +kernel
theorem dX9_likely_69 : decode cX9_likely 69 = .ok (.aload_n 0, 1) := by decide +kernel
theorem dX9_likely_70 : decode cX9_likely 70 = .ok (.getfield 10, 3) := by decide +kernel
theorem dX9_likely_73 : decode cX9_likely 73 = .ok (.getfield 98, 3) := by decide +kernel
theorem dX9_likely_76 : decode cX9_likely 76 = .ok (.getfield 136, 3) := by decide +kernel
theorem dX9_likely_79 : decode cX9_likely 79 = .ok (.iload 4, 2) := by decide +kernel
theorem dX9_likely_81 : decode cX9_likely 81 = .ok (.invokestatic 357, 3) := by decide +kernel
theorem dX9_likely_84 : decode cX9_likely 84 = .ok (.lmul, 1) := by decide +kernel
theorem dX9_likely_85 : decode cX9_likely 85 = .ok (.lcmp, 1) := by decide +kernel
theorem dX9_likely_86 : decode cX9_likely 86 = .ok (.ifCond .lt 6, 3) := by decide +kernel
theorem dX9_likely_89 : decode cX9_likely 89 = .ok (.iload 4, 2) := by decide +kernel
theorem dX9_likely_91 : decode cX9_likely 91 = .ok (.ireturn, 1) := by decide +kernel
theorem dX9_likely_92 : decode cX9_likely 92 = .ok (.iinc 4 1, 3) := by decide +kernel
theorem dX9_likely_95 : decode cX9_likely 95 = .ok (.goto (-53), 3) := by decide +kernel
theorem dX9_likely_98 : decode cX9_likely 98 = .ok (.iconst (-1), 1) := by decide +kernel
theorem dX9_likely_99 : decode cX9_likely 99 = .ok (.ireturn, 1) := by decide +kernel
theorem dX9_stripDraws_0 : decode cX9_stripDraws 0 = .ok (.aload_n 0, 1) := by decide +kernel
theorem dX9_stripDraws_1 : decode cX9_stripDraws 1 = .ok (.getfield 10, 3) := by decide +kernel
theorem dX9_stripDraws_4 : decode cX9_stripDraws 4 = .ok (.getfield 98, 3) := by decide +kernel
theorem dX9_stripDraws_7 : decode cX9_stripDraws 7 = .ok (.astore_n 3, 1) := by decide +kernel
theorem dX9_stripDraws_8 : decode cX9_stripDraws 8 = .ok (.iload_n 1, 1) := by decide +kernel
theorem dX9_stripDraws_9 : decode cX9_stripDraws 9 = .ok (.iconst 2, 1) := by decide +kernel
theorem dX9_stripDraws_10 : decode cX9_stripDraws 10 = .ok (.if_icmp .ne 10, 3) := by decide +kernel
theorem dX9_stripDraws_13 : decode cX9_stripDraws 13 = .ok (.aload_n 3, 1) := by decide +kernel
theorem dX9_stripDraws_14 : decode cX9_stripDraws 14 = .ok (.getfield 200, 3) := by decide +kernel
theorem dX9_stripDraws_17 : decode cX9_stripDraws 17 = .ok (.goto 12, 3) := by decide +kernel
theorem dX9_stripDraws_20 : decode cX9_stripDraws 20 = .ok (.aload_n 3, 1) := by decide +kernel
theorem dX9_stripDraws_21 : decode cX9_stripDraws 21 = .ok (.getfield 200, 3) := by decide +kernel
theorem dX9_stripDraws_24 : decode cX9_stripDraws 24 = .ok (.aload_n 3, 1) := by decide +kernel
theorem dX9_stripDraws_25 : decode cX9_stripDraws 25 = .ok (.getfield 166, 3) := by decide +kernel
theorem dX9_stripDraws_28 : decode cX9_stripDraws 28 = .ok (.imul, 1) := by decide +kernel
theorem dX9_stripDraws_29 : decode cX9_stripDraws 29 = .ok (.istore 4, 2) := by decide +kernel
theorem dX9_stripDraws_31 : decode cX9_stripDraws 31 = .ok (.iload_n 1, 1) := by decide +kernel
theorem dX9_stripDraws_32 : decode cX9_stripDraws 32 = .ok (.iconst 2, 1) := by decide +kernel
theorem dX9_stripDraws_33 : decode cX9_stripDraws 33 = .ok (.if_icmp .ne 15, 3) := by decide +kernel
theorem dX9_stripDraws_36 : decode cX9_stripDraws 36 = .ok (.aload_n 3, 1) := by decide +kernel
theorem dX9_stripDraws_37 : decode cX9_stripDraws 37 = .ok (.getfield 166, 3) := by decide +kernel
theorem dX9_stripDraws_40 : decode cX9_stripDraws 40 = .ok (.aload_n 3, 1) := by decide +kernel
theorem dX9_stripDraws_41 : decode cX9_stripDraws 41 = .ok (.getfield 348, 3) := by decide +kernel
theorem dX9_stripDraws_44 : decode cX9_stripDraws 44 = .ok (.imul, 1) := by decide +kernel
theorem dX9_stripDraws_45 : decode cX9_stripDraws 45 = .ok (.goto 7, 3) := by decide +kernel
theorem dX9_stripDraws_48 : decode cX9_stripDraws 48 = .ok (.aload_n 3, 1) := by decide +kernel
theorem dX9_stripDraws_49 : decode cX9_stripDraws 49 = .ok (.getfield 348, 3) := by decide +kernel
theorem dX9_stripDraws_52 : decode cX9_stripDraws 52 = .ok (.istore 5, 2) := by decide +kernel
theorem dX9_stripDraws_54 : decode cX9_stripDraws 54 = .ok (.aload_n 3, 1) := by decide +kernel
theorem dX9_stripDraws_55 : decode cX9_stripDraws 55 = .ok (.getfield 136, 3) := by decide +kernel
theorem dX9_stripDraws_58 : decode cX9_stripDraws 58 = .ok (.iload_n 2, 1) := by decide +kernel
theorem dX9_stripDraws_59 : decode cX9_stripDraws 59 = .ok (.iload 4, 2) := by decide +kernel
theorem dX9_stripDraws_61 : decode cX9_stripDraws 61 = .ok (.iload 5, 2) := by decide +kernel
theorem dX9_stripDraws_63 : decode cX9_stripDraws 63 = .ok (.iconst 1, 1) := by decide +kernel
theorem dX9_stripDraws_64 : decode cX9_stripDraws 64 = .ok (.invokestatic 351, 3) := by decide +kernel
theorem dX9_stripDraws_67 : decode cX9_stripDraws 67 = .ok (.lreturn, 1) := by decide +kernel
theorem dX9_mean_0 : decode cX9_mean 0 = .ok (.aload_n 0, 1) := by decide +kernel
theorem dX9_mean_1 : decode cX9_mean 1 = .ok (.iload_n 1, 1) := by decide +kernel
theorem dX9_mean_2 : decode cX9_mean 2 = .ok (.invokevirtual 241, 3) := by decide +kernel
theorem dX9_mean_5 : decode cX9_mean 5 = .ok (.ifCond .eq 14, 3) := by decide +kernel
theorem dX9_mean_8 : decode cX9_mean 8 = .ok (.iload_n 1, 1) := by decide +kernel
theorem dX9_mean_9 : decode cX9_mean 9 = .ok (.ifCond .eq 10, 3) := by decide +kernel
theorem dX9_mean_12 : decode cX9_mean 12 = .ok (.iload_n 2, 1) := by decide +kernel
theorem dX9_mean_13 : decode cX9_mean 13 = .ok (.invokestatic 343, 3) := by decide +kernel
theorem dX9_mean_16 : decode cX9_mean 16 = .ok (.ifCond .ne 6, 3) := by decide +kernel
theorem dX9_mean_19 : decode cX9_mean 19 = .ok (.bipush (-2), 2) := by decide +kernel
theorem dX9_mean_21 : decode cX9_mean 21 = .ok (.ireturn, 1) := by decide +kernel
theorem dX9_mean_22 : decode cX9_mean 22 = .ok (.iload_n 1, 1) := by decide +kernel
theorem dX9_mean_23 : decode cX9_mean 23 = .ok (.i2l, 1) := by decide +kernel
theorem dX9_mean_24 : decode cX9_mean 24 = .ok (.aload_n 0, 1) := by decide +kernel
theorem dX9_mean_25 : decode cX9_mean 25 = .ok (.getfield 10, 3) := by decide +kernel
theorem dX9_mean_28 : decode cX9_mean 28 = .ok (.getfield 98, 3) := by decide +kernel
theorem dX9_mean_31 : decode cX9_mean 31 = .ok (.getfield 136, 3) := by decide +kernel
theorem dX9_mean_34 : decode cX9_mean 34 = .ok (.iconst 1, 1) := by decide +kernel
theorem dX9_mean_35 : decode cX9_mean 35 = .ok (.iadd, 1) := by decide +kernel
theorem dX9_mean_36 : decode cX9_mean 36 = .ok (.i2l, 1) := by decide +kernel
theorem dX9_mean_37 : decode cX9_mean 37 = .ok (.lmul, 1) := by decide +kernel
theorem dX9_mean_38 : decode cX9_mean 38 = .ok (.iload_n 1, 1) := by decide +kernel
theorem dX9_mean_39 : decode cX9_mean 39 = .ok (.i2l, 1) := by decide +kernel
theorem dX9_mean_40 : decode cX9_mean 40 = .ok (.lconst 1, 1) := by decide +kernel
theorem dX9_mean_41 : decode cX9_mean 41 = .ok (.ladd, 1) := by decide +kernel
theorem dX9_mean_42 : decode cX9_mean 42 = .ok (.iload_n 2, 1) := by decide +kernel
theorem dX9_mean_43 : decode cX9_mean 43 = .ok (.invokestatic 360, 3) := by decide +kernel
theorem dX9_mean_46 : decode cX9_mean 46 = .ok (.l2i, 1) := by decide +kernel
theorem dX9_mean_47 : decode cX9_mean 47 = .ok (.ireturn, 1) := by decide +kernel
theorem dX9_evenings_0 : decode cX9_evenings 0 = .ok (.aload_n 0, 1) := by decide +kernel
theorem dX9_evenings_1 : decode cX9_evenings 1 = .ok (.iload_n 3, 1) := by decide +kernel
theorem dX9_evenings_2 : decode cX9_evenings 2 = .ok (.invokevirtual 254, 3) := by decide +kernel
theorem dX9_evenings_5 : decode cX9_evenings 5 = .ok (.ifCond .eq 35, 3) := by decide +kernel
theorem dX9_evenings_8 : decode cX9_evenings 8 = .ok (.iload_n 1, 1) := by decide +kernel
theorem dX9_evenings_9 : decode cX9_evenings 9 = .ok (.ifCond .lt 31, 3) := by decide +kernel
theorem dX9_evenings_12 : decode cX9_evenings 12 = .ok (.iload_n 1, 1) := by decide +kernel
theorem dX9_evenings_13 : decode cX9_evenings 13 = .ok (.ldc 234, 2) := by decide +kernel
theorem dX9_evenings_15 : decode cX9_evenings 15 = .ok (.if_icmp .gt 25, 3) := by decide +kernel
theorem dX9_evenings_18 : decode cX9_evenings 18 = .ok (.iload_n 2, 1) := by decide +kernel
theorem dX9_evenings_19 : decode cX9_evenings 19 = .ok (.iconst 1, 1) := by decide +kernel
theorem dX9_evenings_20 : decode cX9_evenings 20 = .ok (.if_icmp .lt 20, 3) := by decide +kernel
theorem dX9_evenings_23 : decode cX9_evenings 23 = .ok (.iload_n 2, 1) := by decide +kernel
theorem dX9_evenings_24 : decode cX9_evenings 24 = .ok (.bipush 20, 2) := by decide +kernel
theorem dX9_evenings_26 : decode cX9_evenings 26 = .ok (.if_icmp .gt 14, 3) := by decide +kernel
theorem dX9_evenings_29 : decode cX9_evenings 29 = .ok (.iload 4, 2) := by decide +kernel
theorem dX9_evenings_31 : decode cX9_evenings 31 = .ok (.ifCond .lt 9, 3) := by decide +kernel
theorem dX9_evenings_34 : decode cX9_evenings 34 = .ok (.iload 4, 2) := by decide +kernel
theorem dX9_evenings_36 : decode cX9_evenings 36 = .ok (.iconst 2, 1) := by decide +kernel
theorem dX9_evenings_37 : decode cX9_evenings 37 = .ok (.if_icmp .le 6, 3) := by decide +kernel
theorem dX9_evenings_40 : decode cX9_evenings 40 = .ok (.bipush (-2), 2) := by decide +kernel
theorem dX9_evenings_42 : decode cX9_evenings 42 = .ok (.ireturn, 1) := by decide +kernel
theorem dX9_evenings_43 : decode cX9_evenings 43 = .ok (.iconst 0, 1) := by decide +kernel
theorem dX9_evenings_44 : decode cX9_evenings 44 = .ok (.istore 5, 2) := by decide +kernel
theorem dX9_evenings_46 : decode cX9_evenings 46 = .ok (.aload_n 0, 1) := by decide +kernel
theorem dX9_evenings_47 : decode cX9_evenings 47 = .ok (.getfield 10, 3) := by decide +kernel
theorem dX9_evenings_50 : decode cX9_evenings 50 = .ok (.getfield 98, 3) := by decide +kernel
theorem dX9_evenings_53 : decode cX9_evenings 53 = .ok (.getfield 136, 3) := by decide +kernel
theorem dX9_evenings_56 : decode cX9_evenings 56 = .ok (.iconst 1, 1) := by decide +kernel
theorem dX9_evenings_57 : decode cX9_evenings 57 = .ok (.iadd, 1) := by decide +kernel
theorem dX9_evenings_58 : decode cX9_evenings 58 = .ok (.istore 6, 2) := by decide +kernel
theorem dX9_evenings_60 : decode cX9_evenings 60 = .ok (.iconst 0, 1) := by decide +kernel
theorem dX9_evenings_61 : decode cX9_evenings 61 = .ok (.istore 7, 2) := by decide +kernel
theorem dX9_evenings_63 : decode cX9_evenings 63 = .ok (.iconst 0, 1) := by decide +kernel
theorem dX9_evenings_64 : decode cX9_evenings 64 = .ok (.istore 8, 2) := by decide +kernel
theorem dX9_evenings_66 : decode cX9_evenings 66 = .ok (.iload 8, 2) := by decide +kernel
theorem dX9_evenings_68 : decode cX9_evenings 68 = .ok (.iload_n 2, 1) := by decide +kernel
theorem dX9_evenings_69 : decode cX9_evenings 69 = .ok (.if_icmp .ge 122, 3) := by decide +kernel
theorem dX9_evenings_72 : decode cX9_evenings 72 = .ok (.aload_n 0, 1) := by decide +kernel
theorem dX9_evenings_73 : decode cX9_evenings 73 = .ok (.getfield 30, 3) := by decide +kernel
theorem dX9_evenings_76 : decode cX9_evenings 76 = .ok (.aload_n 0, 1) := by decide +kernel
theorem dX9_evenings_77 : decode cX9_evenings 77 = .ok (.getfield 10, 3) := by decide +kernel
theorem dX9_evenings_80 : decode cX9_evenings 80 = .ok (.getfield 98, 3) := by decide +kernel
theorem dX9_evenings_83 : decode cX9_evenings 83 = .ok (.iload_n 1, 1) := by decide +kernel
theorem dX9_evenings_84 : decode cX9_evenings 84 = .ok (.iload 8, 2) := by decide +kernel
theorem dX9_evenings_86 : decode cX9_evenings 86 = .ok (.iadd, 1) := by decide +kernel
theorem dX9_evenings_87 : decode cX9_evenings 87 = .ok (.aload_n 0, 1) := by decide +kernel
theorem dX9_evenings_88 : decode cX9_evenings 88 = .ok (.getfield 70, 3) := by decide +kernel
theorem dX9_evenings_91 : decode cX9_evenings 91 = .ok (.invokevirtual 108, 3) := by decide +kernel
theorem dX9_evenings_94 : decode cX9_evenings 94 = .ok (.aload_n 0, 1) := by decide +kernel
theorem dX9_evenings_95 : decode cX9_evenings 95 = .ok (.getfield 70, 3) := by decide +kernel
theorem dX9_evenings_98 : decode cX9_evenings 98 = .ok (.aload_n 0, 1) := by decide +kernel
theorem dX9_evenings_99 : decode cX9_evenings 99 = .ok (.getfield 10, 3) := by decide +kernel
theorem dX9_evenings_102 : decode cX9_evenings 102 = .ok (.getfield 98, 3) := by decide +kernel
theorem dX9_evenings_105 : decode cX9_evenings 105 = .ok (.getfield 136, 3) := by decide +kernel
theorem dX9_evenings_108 : decode cX9_evenings 108 = .ok (.aload_n 0, 1) := by decide +kernel
theorem dX9_evenings_109 : decode cX9_evenings 109 = .ok (.getfield 73, 3) := by decide +kernel
theorem dX9_evenings_112 : decode cX9_evenings 112 = .ok (.invokestatic 367, 3) := by decide +kernel
theorem dX9_evenings_115 : decode cX9_evenings 115 = .ok (.aload_n 0, 1) := by decide +kernel
theorem dX9_evenings_116 : decode cX9_evenings 116 = .ok (.iload_n 3, 1) := by decide +kernel
theorem dX9_evenings_117 : decode cX9_evenings 117 = .ok (.aload_n 0, 1) := by decide +kernel
theorem dX9_evenings_118 : decode cX9_evenings 118 = .ok (.getfield 73, 3) := by decide +kernel
theorem dX9_evenings_121 : decode cX9_evenings 121 = .ok (.invokevirtual 263, 3) := by decide +kernel
theorem dX9_evenings_124 : decode cX9_evenings 124 = .ok (.istore 9, 2) := by decide +kernel
theorem dX9_evenings_126 : decode cX9_evenings 126 = .ok (.iload 9, 2) := by decide +kernel
theorem dX9_evenings_128 : decode cX9_evenings 128 = .ok (.iconst (-1), 1) := by decide +kernel
theorem dX9_evenings_129 : decode cX9_evenings 129 = .ok (.if_icmp .ne 18, 3) := by decide +kernel
theorem dX9_evenings_132 : decode cX9_evenings 132 = .ok (.aload_n 0, 1) := by decide +kernel
theorem dX9_evenings_133 : decode cX9_evenings 133 = .ok (.getfield 10, 3) := by decide +kernel
theorem dX9_evenings_136 : decode cX9_evenings 136 = .ok (.getfield 98, 3) := by decide +kernel
theorem dX9_evenings_139 : decode cX9_evenings 139 = .ok (.getfield 136, 3) := by decide +kernel
theorem dX9_evenings_142 : decode cX9_evenings 142 = .ok (.iconst 1, 1) := by decide +kernel
theorem dX9_evenings_143 : decode cX9_evenings 143 = .ok (.iadd, 1) := by decide +kernel
theorem dX9_evenings_144 : decode cX9_evenings 144 = .ok (.goto 5, 3) := by decide +kernel
theorem dX9_evenings_147 : decode cX9_evenings 147 = .ok (.iload 9, 2) := by decide +kernel
theorem dX9_evenings_149 : decode cX9_evenings 149 = .ok (.istore 10, 2) := by decide +kernel
theorem dX9_evenings_151 : decode cX9_evenings 151 = .ok (.iload 5, 2) := by decide +kernel
theorem dX9_evenings_153 : decode cX9_evenings 153 = .ok (.iload 10, 2) := by decide +kernel
theorem dX9_evenings_155 : decode cX9_evenings 155 = .ok (.iadd, 1) := by decide +kernel
theorem dX9_evenings_156 : decode cX9_evenings 156 = .ok (.istore 5, 2) := by decide +kernel
theorem dX9_evenings_158 : decode cX9_evenings 158 = .ok (.iload 6, 2) := by decide +kernel
theorem dX9_evenings_160 : decode cX9_evenings 160 = .ok (.iload 10, 2) := by decide +kernel
theorem dX9_evenings_162 : decode cX9_evenings 162 = .ok (.invokestatic 305, 3) := by decide +kernel
theorem dX9_evenings_165 : decode cX9_evenings 165 = .ok (.istore 6, 2) := by decide +kernel
theorem dX9_evenings_167 : decode cX9_evenings 167 = .ok (.aload_n 0, 1) := by decide +kernel
theorem dX9_evenings_168 : decode cX9_evenings 168 = .ok (.iload_n 3, 1) := by decide +kernel
theorem dX9_evenings_169 : decode cX9_evenings 169 = .ok (.iload 9, 2) := by decide +kernel
theorem dX9_evenings_171 : decode cX9_evenings 171 = .ok (.aload_n 0, 1) := by decide +kernel
theorem dX9_evenings_172 : decode cX9_evenings 172 = .ok (.getfield 73, 3) := by decide +kernel
theorem dX9_evenings_175 : decode cX9_evenings 175 = .ok (.invokevirtual 267, 3) := by decide +kernel
theorem dX9_evenings_178 : decode cX9_evenings 178 = .ok (.iconst 1, 1) := by decide +kernel
theorem dX9_evenings_179 : decode cX9_evenings 179 = .ok (.if_icmp .le 6, 3) := by decide +kernel
theorem dX9_evenings_182 : decode cX9_evenings 182 = .ok (.iinc 7 1, 3) := by decide +kernel
theorem dX9_evenings_185 : decode cX9_evenings 185 = .ok (.iinc 8 1, 3) := by decide +kernel
theorem dX9_evenings_188 : decode cX9_evenings 188 = .ok (.goto (-122), 3) := by decide +kernel
theorem dX9_evenings_191 : decode cX9_evenings 191 = .ok (.iload 4, 2) := by decide +kernel
theorem dX9_evenings_193 : decode cX9_evenings 193 = .ok (.ifCond .ne 6, 3) := by decide +kernel
theorem dX9_evenings_196 : decode cX9_evenings 196 = .ok (.iload 5, 2) := by decide +kernel
theorem dX9_evenings_198 : decode cX9_evenings 198 = .ok (.ireturn, 1) := by decide +kernel
theorem dX9_evenings_199 : decode cX9_evenings 199 = .ok (.iload 4, 2) := by decide +kernel
theorem dX9_evenings_201 : decode cX9_evenings 201 = .ok (.iconst 1, 1) := by decide +kernel
theorem dX9_evenings_202 : decode cX9_evenings 202 = .ok (.if_icmp .ne 8, 3) := by decide +kernel
theorem dX9_evenings_205 : decode cX9_evenings 205 = .ok (.iload 6, 2) := by decide +kernel
theorem dX9_evenings_207 : decode cX9_evenings 207 = .ok (.goto 5, 3) := by decide +kernel
theorem dX9_evenings_210 : decode cX9_evenings 210 = .ok (.iload 7, 2) := by decide +kernel
theorem dX9_evenings_212 : decode cX9_evenings 212 = .ok (.ireturn, 1) := by decide +kernel
theorem dX9_judge_0 : decode cX9_judge 0 = .ok (.aload_n 0, 1) := by decide +kernel
theorem dX9_judge_1 : decode cX9_judge 1 = .ok (.invokevirtual 133, 3) := by decide +kernel
theorem dX9_judge_4 : decode cX9_judge 4 = .ok (.ifCond .eq 14, 3) := by decide +kernel
theorem dX9_judge_7 : decode cX9_judge 7 = .ok (.aload_n 0, 1) := by decide +kernel
theorem dX9_judge_8 : decode cX9_judge 8 = .ok (.getfield 44, 3) := by decide +kernel
theorem dX9_judge_11 : decode cX9_judge 11 = .ok (.iload_n 1, 1) := by decide +kernel
theorem dX9_judge_12 : decode cX9_judge 12 = .ok (.invokevirtual 149, 3) := by decide +kernel
theorem dX9_judge_15 : decode cX9_judge 15 = .ok (.ifCond .ne 6, 3) := by decide +kernel
theorem dX9_judge_18 : decode cX9_judge 18 = .ok (.bipush (-2), 2) := by decide +kernel
theorem dX9_judge_20 : decode cX9_judge 20 = .ok (.ireturn, 1) := by decide +kernel
theorem dX9_judge_21 : decode cX9_judge 21 = .ok (.aload_n 0, 1) := by decide +kernel
theorem dX9_judge_22 : decode cX9_judge 22 = .ok (.getfield 44, 3) := by decide +kernel
theorem dX9_judge_25 : decode cX9_judge 25 = .ok (.iload_n 1, 1) := by decide +kernel
theorem dX9_judge_26 : decode cX9_judge 26 = .ok (.invokevirtual 152, 3) := by decide +kernel
theorem dX9_judge_29 : decode cX9_judge 29 = .ok (.ifCond .ne 6, 3) := by decide +kernel
theorem dX9_judge_32 : decode cX9_judge 32 = .ok (.bipush (-6), 2) := by decide +kernel
theorem dX9_judge_34 : decode cX9_judge 34 = .ok (.ireturn, 1) := by decide +kernel
theorem dX9_judge_35 : decode cX9_judge 35 = .ok (.aload_n 0, 1) := by decide +kernel
theorem dX9_judge_36 : decode cX9_judge 36 = .ok (.getfield 44, 3) := by decide +kernel
theorem dX9_judge_39 : decode cX9_judge 39 = .ok (.iload_n 1, 1) := by decide +kernel
theorem dX9_judge_40 : decode cX9_judge 40 = .ok (.invokevirtual 155, 3) := by decide +kernel
theorem dX9_judge_43 : decode cX9_judge 43 = .ok (.aload_n 0, 1) := by decide +kernel
theorem dX9_judge_44 : decode cX9_judge 44 = .ok (.getfield 10, 3) := by decide +kernel
theorem dX9_judge_47 : decode cX9_judge 47 = .ok (.getfield 98, 3) := by decide +kernel
theorem dX9_judge_50 : decode cX9_judge 50 = .ok (.getfield 136, 3) := by decide +kernel
theorem dX9_judge_53 : decode cX9_judge 53 = .ok (.invokestatic 305, 3) := by decide +kernel
theorem dX9_judge_56 : decode cX9_judge 56 = .ok (.istore_n 2, 1) := by decide +kernel
theorem dX9_judge_57 : decode cX9_judge 57 = .ok (.iconst 0, 1) := by decide +kernel
theorem dX9_judge_58 : decode cX9_judge 58 = .ok (.istore_n 3, 1) := by decide +kernel
theorem dX9_judge_59 : decode cX9_judge 59 = .ok (.iload_n 3, 1) := by decide +kernel
theorem dX9_judge_60 : decode cX9_judge 60 = .ok (.iload_n 2, 1) := by decide +kernel
theorem dX9_judge_61 : decode cX9_judge 61 = .ok (.if_icmp .ge 34, 3) := by decide +kernel
theorem dX9_judge_64 : decode cX9_judge 64 = .ok (.aload_n 0, 1) := by decide +kernel
theorem dX9_judge_65 : decode cX9_judge 65 = .ok (.getfield 44, 3) := by decide +kernel
theorem dX9_judge_68 : decode cX9_judge 68 = .ok (.iload_n 1, 1) := by decide +kernel
theorem dX9_judge_69 : decode cX9_judge 69 = .ok (.iload_n 3, 1) := by decide +kernel
theorem dX9_judge_70 : decode cX9_judge 70 = .ok (.invokevirtual 162, 3) := by decide +kernel
theorem dX9_judge_73 : decode cX9_judge 73 = .ok (.aload_n 0, 1) := by decide +kernel
theorem dX9_judge_74 : decode cX9_judge 74 = .ok (.getfield 10, 3) := by decide +kernel
theorem dX9_judge_77 : decode cX9_judge 77 = .ok (.getfield 105, 3) := by decide +kernel
theorem dX9_judge_80 : decode cX9_judge 80 = .ok (.iload_n 3, 1) := by decide +kernel
theorem dX9_judge_81 : decode cX9_judge 81 = .ok (.iaload, 1) := by decide +kernel
theorem dX9_judge_82 : decode cX9_judge 82 = .ok (.i2l, 1) := by decide +kernel
theorem dX9_judge_83 : decode cX9_judge 83 = .ok (.lcmp, 1) := by decide +kernel
theorem dX9_judge_84 : decode cX9_judge 84 = .ok (.ifCond .eq 5, 3) := by decide +kernel
theorem dX9_judge_87 : decode cX9_judge 87 = .ok (.iload_n 3, 1) := by decide +kernel
theorem dX9_judge_88 : decode cX9_judge 88 = .ok (.ireturn, 1) := by decide +kernel
theorem dX9_judge_89 : decode cX9_judge 89 = .ok (.iinc 3 1, 3) := by decide +kernel
theorem dX9_judge_92 : decode cX9_judge 92 = .ok (.goto (-33), 3) := by decide +kernel
theorem dX9_judge_95 : decode cX9_judge 95 = .ok (.iload_n 2, 1) := by decide +kernel
theorem dX9_judge_96 : decode cX9_judge 96 = .ok (.ireturn, 1) := by decide +kernel
theorem dX9_count_0 : decode cX9_count 0 = .ok (.iload_n 1, 1) := by decide +kernel
theorem dX9_count_1 : decode cX9_count 1 = .ok (.tableswitch 147 0 9 #[55, 66, 77, 88, 99, 107, 115, 123, 131, 139], 55) := by decide +kernel
theorem dX9_count_56 : decode cX9_count 56 = .ok (.aload_n 0, 1) := by decide +kernel
theorem dX9_count_57 : decode cX9_count 57 = .ok (.getfield 10, 3) := by decide +kernel
theorem dX9_count_60 : decode cX9_count 60 = .ok (.getfield 98, 3) := by decide +kernel
theorem dX9_count_63 : decode cX9_count 63 = .ok (.getfield 200, 3) := by decide +kernel
theorem dX9_count_66 : decode cX9_count 66 = .ok (.ireturn, 1) := by decide +kernel
theorem dX9_count_67 : decode cX9_count 67 = .ok (.aload_n 0, 1) := by decide +kernel
theorem dX9_count_68 : decode cX9_count 68 = .ok (.getfield 10, 3) := by decide +kernel
theorem dX9_count_71 : decode cX9_count 71 = .ok (.getfield 98, 3) := by decide +kernel
theorem dX9_count_74 : decode cX9_count 74 = .ok (.getfield 166, 3) := by decide +kernel
theorem dX9_count_77 : decode cX9_count 77 = .ok (.ireturn, 1) := by decide +kernel
theorem dX9_count_78 : decode cX9_count 78 = .ok (.aload_n 0, 1) := by decide +kernel
theorem dX9_count_79 : decode cX9_count 79 = .ok (.getfield 10, 3) := by decide +kernel
theorem dX9_count_82 : decode cX9_count 82 = .ok (.getfield 98, 3) := by decide +kernel
theorem dX9_count_85 : decode cX9_count 85 = .ok (.getfield 348, 3) := by decide +kernel
theorem dX9_count_88 : decode cX9_count 88 = .ok (.ireturn, 1) := by decide +kernel
theorem dX9_count_89 : decode cX9_count 89 = .ok (.aload_n 0, 1) := by decide +kernel
theorem dX9_count_90 : decode cX9_count 90 = .ok (.getfield 10, 3) := by decide +kernel
theorem dX9_count_93 : decode cX9_count 93 = .ok (.getfield 98, 3) := by decide +kernel
theorem dX9_count_96 : decode cX9_count 96 = .ok (.getfield 159, 3) := by decide +kernel
theorem dX9_count_99 : decode cX9_count 99 = .ok (.ireturn, 1) := by decide +kernel
theorem dX9_count_100 : decode cX9_count 100 = .ok (.aload_n 0, 1) := by decide +kernel
theorem dX9_count_101 : decode cX9_count 101 = .ok (.getfield 10, 3) := by decide +kernel
theorem dX9_count_104 : decode cX9_count 104 = .ok (.getfield 217, 3) := by decide +kernel
theorem dX9_count_107 : decode cX9_count 107 = .ok (.ireturn, 1) := by decide +kernel
theorem dX9_count_108 : decode cX9_count 108 = .ok (.aload_n 0, 1) := by decide +kernel
theorem dX9_count_109 : decode cX9_count 109 = .ok (.getfield 10, 3) := by decide +kernel
theorem dX9_count_112 : decode cX9_count 112 = .ok (.getfield 115, 3) := by decide +kernel
theorem dX9_count_115 : decode cX9_count 115 = .ok (.ireturn, 1) := by decide +kernel
theorem dX9_count_116 : decode cX9_count 116 = .ok (.aload_n 0, 1) := by decide +kernel
theorem dX9_count_117 : decode cX9_count 117 = .ok (.getfield 37, 3) := by decide +kernel
theorem dX9_count_120 : decode cX9_count 120 = .ok (.getfield 76, 3) := by decide +kernel
theorem dX9_count_123 : decode cX9_count 123 = .ok (.ireturn, 1) := by decide +kernel
theorem dX9_count_124 : decode cX9_count 124 = .ok (.aload_n 0, 1) := by decide +kernel
theorem dX9_count_125 : decode cX9_count 125 = .ok (.getfield 10, 3) := by decide +kernel
theorem dX9_count_128 : decode cX9_count 128 = .ok (.getfield 295, 3) := by decide +kernel
theorem dX9_count_131 : decode cX9_count 131 = .ok (.ireturn, 1) := by decide +kernel
theorem dX9_count_132 : decode cX9_count 132 = .ok (.aload_n 0, 1) := by decide +kernel
theorem dX9_count_133 : decode cX9_count 133 = .ok (.getfield 10, 3) := by decide +kernel
theorem dX9_count_136 : decode cX9_count 136 = .ok (.getfield 284, 3) := by decide +kernel
theorem dX9_count_139 : decode cX9_count 139 = .ok (.ireturn, 1) := by decide +kernel
theorem dX9_count_140 : decode cX9_count 140 = .ok (.aload_n 0, 1) := by decide +kernel
theorem dX9_count_141 : decode cX9_count 141 = .ok (.getfield 44, 3) := by decide +kernel
theorem dX9_count_144 : decode cX9_count 144 = .ok (.invokevirtual 370, 3) := by decide +kernel
theorem dX9_count_147 : decode cX9_count 147 = .ok (.ireturn, 1) := by decide +kernel
theorem dX9_count_148 : decode cX9_count 148 = .ok (.iconst (-1), 1) := by decide +kernel
theorem dX9_count_149 : decode cX9_count 149 = .ok (.ireturn, 1) := by decide +kernel
theorem dX9_keep_0 : decode cX9_keep 0 = .ok (.iload_n 1, 1) := by decide +kernel
theorem dX9_keep_1 : decode cX9_keep 1 = .ok (.ifCond .lt 8, 3) := by decide +kernel
theorem dX9_keep_4 : decode cX9_keep 4 = .ok (.iload_n 1, 1) := by decide +kernel
theorem dX9_keep_5 : decode cX9_keep 5 = .ok (.iconst 3, 1) := by decide +kernel
theorem dX9_keep_6 : decode cX9_keep 6 = .ok (.if_icmp .lt 6, 3) := by decide +kernel
theorem dX9_keep_9 : decode cX9_keep 9 = .ok (.bipush (-2), 2) := by decide +kernel
theorem dX9_keep_11 : decode cX9_keep 11 = .ok (.ireturn, 1) := by decide +kernel
theorem dX9_keep_12 : decode cX9_keep 12 = .ok (.aload_n 0, 1) := by decide +kernel
theorem dX9_keep_13 : decode cX9_keep 13 = .ok (.getfield 19, 3) := by decide +kernel
theorem dX9_keep_16 : decode cX9_keep 16 = .ok (.iload_n 1, 1) := by decide +kernel
theorem dX9_keep_17 : decode cX9_keep 17 = .ok (.aaload, 1) := by decide +kernel
theorem dX9_keep_18 : decode cX9_keep 18 = .ok (.aload_n 0, 1) := by decide +kernel
theorem dX9_keep_19 : decode cX9_keep 19 = .ok (.getfield 10, 3) := by decide +kernel
theorem dX9_keep_22 : decode cX9_keep 22 = .ok (.invokevirtual 374, 3) := by decide +kernel
theorem dX9_keep_25 : decode cX9_keep 25 = .ok (.aload_n 0, 1) := by decide +kernel
theorem dX9_keep_26 : decode cX9_keep 26 = .ok (.getfield 23, 3) := by decide +kernel
theorem dX9_keep_29 : decode cX9_keep 29 = .ok (.iload_n 1, 1) := by decide +kernel
theorem dX9_keep_30 : decode cX9_keep 30 = .ok (.iconst 1, 1) := by decide +kernel
theorem dX9_keep_31 : decode cX9_keep 31 = .ok (.bastore, 1) := by decide +kernel
theorem dX9_keep_32 : decode cX9_keep 32 = .ok (.iconst 0, 1) := by decide +kernel
theorem dX9_keep_33 : decode cX9_keep 33 = .ok (.ireturn, 1) := by decide +kernel
theorem dX9_back_0 : decode cX9_back 0 = .ok (.iload_n 1, 1) := by decide +kernel
theorem dX9_back_1 : decode cX9_back 1 = .ok (.ifCond .lt 8, 3) := by decide +kernel
theorem dX9_back_4 : decode cX9_back 4 = .ok (.iload_n 1, 1) := by decide +kernel
theorem dX9_back_5 : decode cX9_back 5 = .ok (.iconst 3, 1) := by decide +kernel
theorem dX9_back_6 : decode cX9_back 6 = .ok (.if_icmp .lt 6, 3) := by decide +kernel
theorem dX9_back_9 : decode cX9_back 9 = .ok (.bipush (-2), 2) := by decide +kernel
theorem dX9_back_11 : decode cX9_back 11 = .ok (.ireturn, 1) := by decide +kernel
theorem dX9_back_12 : decode cX9_back 12 = .ok (.aload_n 0, 1) := by decide +kernel
theorem dX9_back_13 : decode cX9_back 13 = .ok (.getfield 23, 3) := by decide +kernel
theorem dX9_back_16 : decode cX9_back 16 = .ok (.iload_n 1, 1) := by decide +kernel
theorem dX9_back_17 : decode cX9_back 17 = .ok (.baload, 1) := by decide +kernel
theorem dX9_back_18 : decode cX9_back 18 = .ok (.ifCond .ne 6, 3) := by decide +kernel
theorem dX9_back_21 : decode cX9_back 21 = .ok (.bipush (-6), 2) := by decide +kernel
theorem dX9_back_23 : decode cX9_back 23 = .ok (.ireturn, 1) := by decide +kernel
theorem dX9_back_24 : decode cX9_back 24 = .ok (.aload_n 0, 1) := by decide +kernel
theorem dX9_back_25 : decode cX9_back 25 = .ok (.getfield 10, 3) := by decide +kernel
theorem dX9_back_28 : decode cX9_back 28 = .ok (.aload_n 0, 1) := by decide +kernel
theorem dX9_back_29 : decode cX9_back 29 = .ok (.getfield 19, 3) := by decide +kernel
theorem dX9_back_32 : decode cX9_back 32 = .ok (.iload_n 1, 1) := by decide +kernel
theorem dX9_back_33 : decode cX9_back 33 = .ok (.aaload, 1) := by decide +kernel
theorem dX9_back_34 : decode cX9_back 34 = .ok (.invokevirtual 374, 3) := by decide +kernel
theorem dX9_back_37 : decode cX9_back 37 = .ok (.iconst 0, 1) := by decide +kernel
theorem dX9_back_38 : decode cX9_back 38 = .ok (.ireturn, 1) := by decide +kernel
theorem dX9_row_0 : decode cX9_row 0 = .ok (.aload_n 0, 1) := by decide +kernel
theorem dX9_row_1 : decode cX9_row 1 = .ok (.getfield 44, 3) := by decide +kernel
theorem dX9_row_4 : decode cX9_row 4 = .ok (.iload_n 1, 1) := by decide +kernel
theorem dX9_row_5 : decode cX9_row 5 = .ok (.invokevirtual 149, 3) := by decide +kernel
theorem dX9_row_8 : decode cX9_row 8 = .ok (.ifCond .eq 18, 3) := by decide +kernel
theorem dX9_row_11 : decode cX9_row 11 = .ok (.iload_n 2, 1) := by decide +kernel
theorem dX9_row_12 : decode cX9_row 12 = .ok (.ifCond .lt 14, 3) := by decide +kernel
theorem dX9_row_15 : decode cX9_row 15 = .ok (.iload_n 2, 1) := by decide +kernel
theorem dX9_row_16 : decode cX9_row 16 = .ok (.iconst 3, 1) := by decide +kernel
theorem dX9_row_17 : decode cX9_row 17 = .ok (.if_icmp .gt 9, 3) := by decide +kernel
theorem dX9_row_20 : decode cX9_row 20 = .ok (.iload_n 3, 1) := by decide +kernel
theorem dX9_row_21 : decode cX9_row 21 = .ok (.bipush 60, 2) := by decide +kernel
theorem dX9_row_23 : decode cX9_row 23 = .ok (.if_icmp .le 6, 3) := by decide +kernel
theorem dX9_row_26 : decode cX9_row 26 = .ok (.bipush (-2), 2) := by decide +kernel
theorem dX9_row_28 : decode cX9_row 28 = .ok (.ireturn, 1) := by decide +kernel
theorem dX9_row_29 : decode cX9_row 29 = .ok (.iload_n 3, 1) := by decide +kernel
theorem dX9_row_30 : decode cX9_row 30 = .ok (.ifCond .ge 6, 3) := by decide +kernel
theorem dX9_row_33 : decode cX9_row 33 = .ok (.bipush (-3), 2) := by decide +kernel
theorem dX9_row_35 : decode cX9_row 35 = .ok (.ireturn, 1) := by decide +kernel
theorem dX9_row_36 : decode cX9_row 36 = .ok (.aload_n 0, 1) := by decide +kernel
theorem dX9_row_37 : decode cX9_row 37 = .ok (.getfield 44, 3) := by decide +kernel
theorem dX9_row_40 : decode cX9_row 40 = .ok (.iload_n 1, 1) := by decide +kernel
theorem dX9_row_41 : decode cX9_row 41 = .ok (.iload_n 2, 1) := by decide +kernel
theorem dX9_row_42 : decode cX9_row 42 = .ok (.iload_n 3, 1) := by decide +kernel
theorem dX9_row_43 : decode cX9_row 43 = .ok (.invokevirtual 377, 3) := by decide +kernel
theorem dX9_row_46 : decode cX9_row 46 = .ok (.iconst 0, 1) := by decide +kernel
theorem dX9_row_47 : decode cX9_row 47 = .ok (.ireturn, 1) := by decide +kernel
theorem dX9_write_0 : decode cX9_write 0 = .ok (.aload_n 0, 1) := by decide +kernel
theorem dX9_write_1 : decode cX9_write 1 = .ok (.getfield 44, 3) := by decide +kernel
theorem dX9_write_4 : decode cX9_write 4 = .ok (.iload_n 1, 1) := by decide +kernel
theorem dX9_write_5 : decode cX9_write 5 = .ok (.invokevirtual 149, 3) := by decide +kernel
theorem dX9_write_8 : decode cX9_write 8 = .ok (.ifCond .ne 6, 3) := by decide +kernel
theorem dX9_write_11 : decode cX9_write 11 = .ok (.bipush (-2), 2) := by decide +kernel
theorem dX9_write_13 : decode cX9_write 13 = .ok (.ireturn, 1) := by decide +kernel
theorem dX9_write_14 : decode cX9_write 14 = .ok (.aload_n 0, 1) := by decide +kernel
theorem dX9_write_15 : decode cX9_write 15 = .ok (.getfield 44, 3) := by decide +kernel
theorem dX9_write_18 : decode cX9_write 18 = .ok (.iload_n 1, 1) := by decide +kernel
theorem dX9_write_19 : decode cX9_write 19 = .ok (.invokevirtual 152, 3) := by decide +kernel
theorem dX9_write_22 : decode cX9_write 22 = .ok (.ifCond .ne 6, 3) := by decide +kernel
theorem dX9_write_25 : decode cX9_write 25 = .ok (.bipush (-6), 2) := by decide +kernel
theorem dX9_write_27 : decode cX9_write 27 = .ok (.ireturn, 1) := by decide +kernel
theorem dX9_write_28 : decode cX9_write 28 = .ok (.iload_n 2, 1) := by decide +kernel
theorem dX9_write_29 : decode cX9_write 29 = .ok (.ifCond .lt 15, 3) := by decide +kernel
theorem dX9_write_32 : decode cX9_write 32 = .ok (.iload_n 2, 1) := by decide +kernel
theorem dX9_write_33 : decode cX9_write 33 = .ok (.aload_n 0, 1) := by decide +kernel
theorem dX9_write_34 : decode cX9_write 34 = .ok (.getfield 44, 3) := by decide +kernel
theorem dX9_write_37 : decode cX9_write 37 = .ok (.iload_n 1, 1) := by decide +kernel
theorem dX9_write_38 : decode cX9_write 38 = .ok (.invokevirtual 155, 3) := by decide +kernel
theorem dX9_write_41 : decode cX9_write 41 = .ok (.if_icmp .lt 6, 3) := by decide +kernel
theorem dX9_write_44 : decode cX9_write 44 = .ok (.bipush (-7), 2) := by decide +kernel
theorem dX9_write_46 : decode cX9_write 46 = .ok (.ireturn, 1) := by decide +kernel
theorem dX9_write_47 : decode cX9_write 47 = .ok (.aload_n 0, 1) := by decide +kernel
theorem dX9_write_48 : decode cX9_write 48 = .ok (.getfield 44, 3) := by decide +kernel
theorem dX9_write_51 : decode cX9_write 51 = .ok (.iload_n 1, 1) := by decide +kernel
theorem dX9_write_52 : decode cX9_write 52 = .ok (.iload_n 2, 1) := by decide +kernel
theorem dX9_write_53 : decode cX9_write 53 = .ok (.lload_n 3, 1) := by decide +kernel
theorem dX9_write_54 : decode cX9_write 54 = .ok (.invokevirtual 380, 3) := by decide +kernel
theorem dX9_write_57 : decode cX9_write 57 = .ok (.iconst 0, 1) := by decide +kernel
theorem dX9_write_58 : decode cX9_write 58 = .ok (.ireturn, 1) := by decide +kernel
theorem dX9_paste_0 : decode cX9_paste 0 = .ok (.aload_n 0, 1) := by decide +kernel
theorem dX9_paste_1 : decode cX9_paste 1 = .ok (.getfield 44, 3) := by decide +kernel
theorem dX9_paste_4 : decode cX9_paste 4 = .ok (.iload_n 1, 1) := by decide +kernel
theorem dX9_paste_5 : decode cX9_paste 5 = .ok (.invokevirtual 149, 3) := by decide +kernel
theorem dX9_paste_8 : decode cX9_paste 8 = .ok (.ifCond .eq 14, 3) := by decide +kernel
theorem dX9_paste_11 : decode cX9_paste 11 = .ok (.aload_n 0, 1) := by decide +kernel
theorem dX9_paste_12 : decode cX9_paste 12 = .ok (.getfield 44, 3) := by decide +kernel
theorem dX9_paste_15 : decode cX9_paste 15 = .ok (.iload_n 3, 1) := by decide +kernel
theorem dX9_paste_16 : decode cX9_paste 16 = .ok (.invokevirtual 149, 3) := by decide +kernel
theorem dX9_paste_19 : decode cX9_paste 19 = .ok (.ifCond .ne 6, 3) := by decide +kernel
theorem dX9_paste_22 : decode cX9_paste 22 = .ok (.bipush (-2), 2) := by decide +kernel
theorem dX9_paste_24 : decode cX9_paste 24 = .ok (.ireturn, 1) := by decide +kernel
theorem dX9_paste_25 : decode cX9_paste 25 = .ok (.aload_n 0, 1) := by decide +kernel
theorem dX9_paste_26 : decode cX9_paste 26 = .ok (.getfield 44, 3) := by decide +kernel
theorem dX9_paste_29 : decode cX9_paste 29 = .ok (.iload_n 1, 1) := by decide +kernel
theorem dX9_paste_30 : decode cX9_paste 30 = .ok (.invokevirtual 152, 3) := by decide +kernel
theorem dX9_paste_33 : decode cX9_paste 33 = .ok (.ifCond .eq 14, 3) := by decide +kernel
theorem dX9_paste_36 : decode cX9_paste 36 = .ok (.aload_n 0, 1) := by decide +kernel
theorem dX9_paste_37 : decode cX9_paste 37 = .ok (.getfield 44, 3) := by decide +kernel
theorem dX9_paste_40 : decode cX9_paste 40 = .ok (.iload_n 3, 1) := by decide +kernel
theorem dX9_paste_41 : decode cX9_paste 41 = .ok (.invokevirtual 152, 3) := by decide +kernel
theorem dX9_paste_44 : decode cX9_paste 44 = .ok (.ifCond .ne 6, 3) := by decide +kernel
theorem dX9_paste_47 : decode cX9_paste 47 = .ok (.bipush (-6), 2) := by decide +kernel
theorem dX9_paste_49 : decode cX9_paste 49 = .ok (.ireturn, 1) := by decide +kernel
theorem dX9_paste_50 : decode cX9_paste 50 = .ok (.aload_n 0, 1) := by decide +kernel
theorem dX9_paste_51 : decode cX9_paste 51 = .ok (.getfield 44, 3) := by decide +kernel
theorem dX9_paste_54 : decode cX9_paste 54 = .ok (.iload_n 1, 1) := by decide +kernel
theorem dX9_paste_55 : decode cX9_paste 55 = .ok (.iload_n 3, 1) := by decide +kernel
theorem dX9_paste_56 : decode cX9_paste 56 = .ok (.invokevirtual 384, 3) := by decide +kernel
theorem dX9_paste_59 : decode cX9_paste 59 = .ok (.ifCond .ne 6, 3) := by decide +kernel
theorem dX9_paste_62 : decode cX9_paste 62 = .ok (.bipush (-8), 2) := by decide +kernel
theorem dX9_paste_64 : decode cX9_paste 64 = .ok (.ireturn, 1) := by decide +kernel
theorem dX9_paste_65 : decode cX9_paste 65 = .ok (.aload_n 0, 1) := by decide +kernel
theorem dX9_paste_66 : decode cX9_paste 66 = .ok (.getfield 44, 3) := by decide +kernel
theorem dX9_paste_69 : decode cX9_paste 69 = .ok (.iload_n 1, 1) := by decide +kernel
theorem dX9_paste_70 : decode cX9_paste 70 = .ok (.iload_n 2, 1) := by decide +kernel
theorem dX9_paste_71 : decode cX9_paste 71 = .ok (.iload 5, 2) := by decide +kernel
theorem dX9_paste_73 : decode cX9_paste 73 = .ok (.invokevirtual 388, 3) := by decide +kernel
theorem dX9_paste_76 : decode cX9_paste 76 = .ok (.ifCond .eq 18, 3) := by decide +kernel
theorem dX9_paste_79 : decode cX9_paste 79 = .ok (.aload_n 0, 1) := by decide +kernel
theorem dX9_paste_80 : decode cX9_paste 80 = .ok (.getfield 44, 3) := by decide +kernel
theorem dX9_paste_83 : decode cX9_paste 83 = .ok (.iload_n 3, 1) := by decide +kernel
theorem dX9_paste_84 : decode cX9_paste 84 = .ok (.iload 4, 2) := by decide +kernel
theorem dX9_paste_86 : decode cX9_paste 86 = .ok (.iload 5, 2) := by decide +kernel
theorem dX9_paste_88 : decode cX9_paste 88 = .ok (.invokevirtual 388, 3) := by decide +kernel
theorem dX9_paste_91 : decode cX9_paste 91 = .ok (.ifCond .ne 6, 3) := by decide +kernel
theorem dX9_paste_94 : decode cX9_paste 94 = .ok (.bipush (-7), 2) := by decide +kernel
theorem dX9_paste_96 : decode cX9_paste 96 = .ok (.ireturn, 1) := by decide +kernel
theorem dX9_paste_97 : decode cX9_paste 97 = .ok (.aload_n 0, 1) := by decide +kernel
theorem dX9_paste_98 : decode cX9_paste 98 = .ok (.getfield 44, 3) := by decide +kernel
theorem dX9_paste_101 : decode cX9_paste 101 = .ok (.iload_n 1, 1) := by decide +kernel
theorem dX9_paste_102 : decode cX9_paste 102 = .ok (.iload_n 2, 1) := by decide +kernel
theorem dX9_paste_103 : decode cX9_paste 103 = .ok (.iload_n 3, 1) := by decide +kernel
theorem dX9_paste_104 : decode cX9_paste 104 = .ok (.iload 4, 2) := by decide +kernel
theorem dX9_paste_106 : decode cX9_paste 106 = .ok (.iload 5, 2) := by decide +kernel
theorem dX9_paste_108 : decode cX9_paste 108 = .ok (.invokevirtual 392, 3) := by decide +kernel
theorem dX9_paste_111 : decode cX9_paste 111 = .ok (.iconst 0, 1) := by decide +kernel
theorem dX9_paste_112 : decode cX9_paste 112 = .ok (.ireturn, 1) := by decide +kernel
theorem dX9_isHall_0 : decode cX9_isHall 0 = .ok (.aload_n 0, 1) := by decide +kernel
theorem dX9_isHall_1 : decode cX9_isHall 1 = .ok (.getfield 10, 3) := by decide +kernel
theorem dX9_isHall_4 : decode cX9_isHall 4 = .ok (.getfield 115, 3) := by decide +kernel
theorem dX9_isHall_7 : decode cX9_isHall 7 = .ok (.ifCond .le 7, 3) := by decide +kernel
theorem dX9_isHall_10 : decode cX9_isHall 10 = .ok (.iconst 1, 1) := by decide +kernel
theorem dX9_isHall_11 : decode cX9_isHall 11 = .ok (.goto 4, 3) := by decide +kernel
theorem dX9_isHall_14 : decode cX9_isHall 14 = .ok (.iconst 0, 1) := by decide +kernel
theorem dX9_isHall_15 : decode cX9_isHall 15 = .ok (.ireturn, 1) := by decide +kernel
theorem dX9_isSerial_0 : decode cX9_isSerial 0 = .ok (.aload_n 0, 1) := by decide +kernel
theorem dX9_isSerial_1 : decode cX9_isSerial 1 = .ok (.invokevirtual 133, 3) := by decide +kernel
theorem dX9_isSerial_4 : decode cX9_isSerial 4 = .ok (.ifCond .eq 18, 3) := by decide +kernel
theorem dX9_isSerial_7 : decode cX9_isSerial 7 = .ok (.iload_n 1, 1) := by decide +kernel
theorem dX9_isSerial_8 : decode cX9_isSerial 8 = .ok (.ifCond .lt 14, 3) := by decide +kernel
theorem dX9_isSerial_11 : decode cX9_isSerial 11 = .ok (.iload_n 1, 1) := by decide +kernel
theorem dX9_isSerial_12 : decode cX9_isSerial 12 = .ok (.sipush 9999, 3) := by decide +kernel
theorem dX9_isSerial_15 : decode cX9_isSerial 15 = .ok (.if_icmp .gt 7, 3) := by decide +kernel
theorem dX9_isSerial_18 : decode cX9_isSerial 18 = .ok (.iconst 1, 1) := by decide +kernel
theorem dX9_isSerial_19 : decode cX9_isSerial 19 = .ok (.goto 4, 3) := by decide +kernel
theorem dX9_isSerial_22 : decode cX9_isSerial 22 = .ok (.iconst 0, 1) := by decide +kernel
theorem dX9_isSerial_23 : decode cX9_isSerial 23 = .ok (.ireturn, 1) := by decide +kernel
theorem dX9_isCard_0 : decode cX9_isCard 0 = .ok (.aload_n 0, 1) := by decide +kernel
theorem dX9_isCard_1 : decode cX9_isCard 1 = .ok (.invokevirtual 133, 3) := by decide +kernel
theorem dX9_isCard_4 : decode cX9_isCard 4 = .ok (.ifCond .eq 25, 3) := by decide +kernel
theorem dX9_isCard_7 : decode cX9_isCard 7 = .ok (.iload_n 1, 1) := by decide +kernel
theorem dX9_isCard_8 : decode cX9_isCard 8 = .ok (.ifCond .lt 21, 3) := by decide +kernel
theorem dX9_isCard_11 : decode cX9_isCard 11 = .ok (.iload_n 1, 1) := by decide +kernel
theorem dX9_isCard_12 : decode cX9_isCard 12 = .ok (.aload_n 0, 1) := by decide +kernel
theorem dX9_isCard_13 : decode cX9_isCard 13 = .ok (.getfield 10, 3) := by decide +kernel
theorem dX9_isCard_16 : decode cX9_isCard 16 = .ok (.getfield 98, 3) := by decide +kernel
theorem dX9_isCard_19 : decode cX9_isCard 19 = .ok (.getfield 200, 3) := by decide +kernel
theorem dX9_isCard_22 : decode cX9_isCard 22 = .ok (.if_icmp .ge 7, 3) := by decide +kernel
theorem dX9_isCard_25 : decode cX9_isCard 25 = .ok (.iconst 1, 1) := by decide +kernel
theorem dX9_isCard_26 : decode cX9_isCard 26 = .ok (.goto 4, 3) := by decide +kernel
theorem dX9_isCard_29 : decode cX9_isCard 29 = .ok (.iconst 0, 1) := by decide +kernel
theorem dX9_isCard_30 : decode cX9_isCard 30 = .ok (.ireturn, 1) := by decide +kernel
theorem dX9_isColumn_0 : decode cX9_isColumn 0 = .ok (.aload_n 0, 1) := by decide +kernel
theorem dX9_isColumn_1 : decode cX9_isColumn 1 = .ok (.invokevirtual 133, 3) := by decide +kernel
theorem dX9_isColumn_4 : decode cX9_isColumn 4 = .ok (.ifCond .eq 25, 3) := by decide +kernel
theorem dX9_isColumn_7 : decode cX9_isColumn 7 = .ok (.iload_n 1, 1) := by decide +kernel
theorem dX9_isColumn_8 : decode cX9_isColumn 8 = .ok (.ifCond .lt 21, 3) := by decide +kernel
theorem dX9_isColumn_11 : decode cX9_isColumn 11 = .ok (.iload_n 1, 1) := by decide +kernel
theorem dX9_isColumn_12 : decode cX9_isColumn 12 = .ok (.aload_n 0, 1) := by decide +kernel
theorem dX9_isColumn_13 : decode cX9_isColumn 13 = .ok (.getfield 10, 3) := by decide +kernel
theorem dX9_isColumn_16 : decode cX9_isColumn 16 = .ok (.getfield 98, 3) := by decide +kernel
theorem dX9_isColumn_19 : decode cX9_isColumn 19 = .ok (.getfield 159, 3) := by decide +kernel
theorem dX9_isColumn_22 : decode cX9_isColumn 22 = .ok (.if_icmp .ge 7, 3) := by decide +kernel
theorem dX9_isColumn_25 : decode cX9_isColumn 25 = .ok (.iconst 1, 1) := by decide +kernel
theorem dX9_isColumn_26 : decode cX9_isColumn 26 = .ok (.goto 4, 3) := by decide +kernel
theorem dX9_isColumn_29 : decode cX9_isColumn 29 = .ok (.iconst 0, 1) := by decide +kernel
theorem dX9_isColumn_30 : decode cX9_isColumn 30 = .ok (.ireturn, 1) := by decide +kernel
theorem dX9_isNumber_0 : decode cX9_isNumber 0 = .ok (.aload_n 0, 1) := by decide +kernel
theorem dX9_isNumber_1 : decode cX9_isNumber 1 = .ok (.invokevirtual 133, 3) := by decide +kernel
theorem dX9_isNumber_4 : decode cX9_isNumber 4 = .ok (.ifCond .eq 26, 3) := by decide +kernel
theorem dX9_isNumber_7 : decode cX9_isNumber 7 = .ok (.iload_n 1, 1) := by decide +kernel
theorem dX9_isNumber_8 : decode cX9_isNumber 8 = .ok (.iconst 1, 1) := by decide +kernel
theorem dX9_isNumber_9 : decode cX9_isNumber 9 = .ok (.if_icmp .lt 21, 3) := by decide +kernel
theorem dX9_isNumber_12 : decode cX9_isNumber 12 = .ok (.iload_n 1, 1) := by decide +kernel
theorem dX9_isNumber_13 : decode cX9_isNumber 13 = .ok (.aload_n 0, 1) := by decide +kernel
theorem dX9_isNumber_14 : decode cX9_isNumber 14 = .ok (.getfield 10, 3) := by decide +kernel
theorem dX9_isNumber_17 : decode cX9_isNumber 17 = .ok (.getfield 98, 3) := by decide +kernel
theorem dX9_isNumber_20 : decode cX9_isNumber 20 = .ok (.getfield 136, 3) := by decide +kernel
theorem dX9_isNumber_23 : decode cX9_isNumber 23 = .ok (.if_icmp .gt 7, 3) := by decide +kernel
theorem dX9_isNumber_26 : decode cX9_isNumber 26 = .ok (.iconst 1, 1) := by decide +kernel
theorem dX9_isNumber_27 : decode cX9_isNumber 27 = .ok (.goto 4, 3) := by decide +kernel
theorem dX9_isNumber_30 : decode cX9_isNumber 30 = .ok (.iconst 0, 1) := by decide +kernel
theorem dX9_isNumber_31 : decode cX9_isNumber 31 = .ok (.ireturn, 1) := by decide +kernel
theorem dX9_isKind_0 : decode cX9_isKind 0 = .ok (.aload_n 0, 1) := by decide +kernel
theorem dX9_isKind_1 : decode cX9_isKind 1 = .ok (.invokevirtual 133, 3) := by decide +kernel
theorem dX9_isKind_4 : decode cX9_isKind 4 = .ok (.ifCond .eq 16, 3) := by decide +kernel
theorem dX9_isKind_7 : decode cX9_isKind 7 = .ok (.iload_n 1, 1) := by decide +kernel
theorem dX9_isKind_8 : decode cX9_isKind 8 = .ok (.ifCond .lt 12, 3) := by decide +kernel
theorem dX9_isKind_11 : decode cX9_isKind 11 = .ok (.iload_n 1, 1) := by decide +kernel
theorem dX9_isKind_12 : decode cX9_isKind 12 = .ok (.iconst 3, 1) := by decide +kernel
theorem dX9_isKind_13 : decode cX9_isKind 13 = .ok (.if_icmp .ge 7, 3) := by decide +kernel
theorem dX9_isKind_16 : decode cX9_isKind 16 = .ok (.iconst 1, 1) := by decide +kernel
theorem dX9_isKind_17 : decode cX9_isKind 17 = .ok (.goto 4, 3) := by decide +kernel
theorem dX9_isKind_20 : decode cX9_isKind 20 = .ok (.iconst 0, 1) := by decide +kernel
theorem dX9_isKind_21 : decode cX9_isKind 21 = .ok (.ireturn, 1) := by decide +kernel
theorem dX9_isTime_0 : decode cX9_isTime 0 = .ok (.aload_n 0, 1) := by decide +kernel
theorem dX9_isTime_1 : decode cX9_isTime 1 = .ok (.invokevirtual 133, 3) := by decide +kernel
theorem dX9_isTime_4 : decode cX9_isTime 4 = .ok (.ifCond .eq 25, 3) := by decide +kernel
theorem dX9_isTime_7 : decode cX9_isTime 7 = .ok (.iload_n 1, 1) := by decide +kernel
theorem dX9_isTime_8 : decode cX9_isTime 8 = .ok (.ifCond .lt 21, 3) := by decide +kernel
theorem dX9_isTime_11 : decode cX9_isTime 11 = .ok (.iload_n 1, 1) := by decide +kernel
theorem dX9_isTime_12 : decode cX9_isTime 12 = .ok (.aload_n 0, 1) := by decide +kernel
theorem dX9_isTime_13 : decode cX9_isTime 13 = .ok (.getfield 10, 3) := by decide +kernel
theorem dX9_isTime_16 : decode cX9_isTime 16 = .ok (.getfield 98, 3) := by decide +kernel
theorem dX9_isTime_19 : decode cX9_isTime 19 = .ok (.getfield 136, 3) := by decide +kernel
theorem dX9_isTime_22 : decode cX9_isTime 22 = .ok (.if_icmp .gt 7, 3) := by decide +kernel
theorem dX9_isTime_25 : decode cX9_isTime 25 = .ok (.iconst 1, 1) := by decide +kernel
theorem dX9_isTime_26 : decode cX9_isTime 26 = .ok (.goto 4, 3) := by decide +kernel
theorem dX9_isTime_29 : decode cX9_isTime 29 = .ok (.iconst 0, 1) := by decide +kernel
theorem dX9_isTime_30 : decode cX9_isTime 30 = .ok (.ireturn, 1) := by decide +kernel
theorem dX9_isPlace_0 : decode cX9_isPlace 0 = .ok (.aload_n 0, 1) := by decide +kernel
theorem dX9_isPlace_1 : decode cX9_isPlace 1 = .ok (.invokevirtual 133, 3) := by decide +kernel
theorem dX9_isPlace_4 : decode cX9_isPlace 4 = .ok (.ifCond .eq 22, 3) := by decide +kernel
theorem dX9_isPlace_7 : decode cX9_isPlace 7 = .ok (.iload_n 1, 1) := by decide +kernel
theorem dX9_isPlace_8 : decode cX9_isPlace 8 = .ok (.ifCond .lt 18, 3) := by decide +kernel
theorem dX9_isPlace_11 : decode cX9_isPlace 11 = .ok (.iload_n 1, 1) := by decide +kernel
theorem dX9_isPlace_12 : decode cX9_isPlace 12 = .ok (.aload_n 0, 1) := by decide +kernel
theorem dX9_isPlace_13 : decode cX9_isPlace 13 = .ok (.getfield 10, 3) := by decide +kernel
theorem dX9_isPlace_16 : decode cX9_isPlace 16 = .ok (.getfield 217, 3) := by decide +kernel
theorem dX9_isPlace_19 : decode cX9_isPlace 19 = .ok (.if_icmp .ge 7, 3) := by decide +kernel
theorem dX9_isPlace_22 : decode cX9_isPlace 22 = .ok (.iconst 1, 1) := by decide +kernel
theorem dX9_isPlace_23 : decode cX9_isPlace 23 = .ok (.goto 4, 3) := by decide +kernel
theorem dX9_isPlace_26 : decode cX9_isPlace 26 = .ok (.iconst 0, 1) := by decide +kernel
theorem dX9_isPlace_27 : decode cX9_isPlace 27 = .ok (.ireturn, 1) := by decide +kernel
theorem dX9_isPartOfFraction_0 : decode cX9_isPartOfFraction 0 = .ok (.iload_n 0, 1) := by decide +kernel
theorem dX9_isPartOfFraction_1 : decode cX9_isPartOfFraction 1 = .ok (.ifCond .eq 8, 3) := by decide +kernel
theorem dX9_isPartOfFraction_4 : decode cX9_isPartOfFraction 4 = .ok (.iload_n 0, 1) := by decide +kernel
theorem dX9_isPartOfFraction_5 : decode cX9_isPartOfFraction 5 = .ok (.iconst 1, 1) := by decide +kernel
theorem dX9_isPartOfFraction_6 : decode cX9_isPartOfFraction 6 = .ok (.if_icmp .ne 7, 3) := by decide +kernel
theorem dX9_isPartOfFraction_9 : decode cX9_isPartOfFraction 9 = .ok (.iconst 1, 1) := by decide +kernel
theorem dX9_isPartOfFraction_10 : decode cX9_isPartOfFraction 10 = .ok (.goto 4, 3) := by decide +kernel
theorem dX9_isPartOfFraction_13 : decode cX9_isPartOfFraction 13 = .ok (.iconst 0, 1) := by decide +kernel
theorem dX9_isPartOfFraction_14 : decode cX9_isPartOfFraction 14 = .ok (.ireturn, 1) := by decide +kernel
theorem dX9_cardOf_0 : decode cX9_cardOf 0 = .ok (.aload_n 0, 1) := by decide +kernel
theorem dX9_cardOf_1 : decode cX9_cardOf 1 = .ok (.getfield 30, 3) := by decide +kernel
theorem dX9_cardOf_4 : decode cX9_cardOf 4 = .ok (.aload_n 0, 1) := by decide +kernel
theorem dX9_cardOf_5 : decode cX9_cardOf 5 = .ok (.getfield 10, 3) := by decide +kernel
theorem dX9_cardOf_8 : decode cX9_cardOf 8 = .ok (.getfield 98, 3) := by decide +kernel
theorem dX9_cardOf_11 : decode cX9_cardOf 11 = .ok (.iload_n 1, 1) := by decide +kernel
theorem dX9_cardOf_12 : decode cX9_cardOf 12 = .ok (.aload_n 0, 1) := by decide +kernel
theorem dX9_cardOf_13 : decode cX9_cardOf 13 = .ok (.getfield 55, 3) := by decide +kernel
theorem dX9_cardOf_16 : decode cX9_cardOf 16 = .ok (.invokevirtual 190, 3) := by decide +kernel
theorem dX9_cardOf_19 : decode cX9_cardOf 19 = .ok (.aload_n 0, 1) := by decide +kernel
theorem dX9_cardOf_20 : decode cX9_cardOf 20 = .ok (.getfield 51, 3) := by decide +kernel
theorem dX9_cardOf_23 : decode cX9_cardOf 23 = .ok (.aload_n 0, 1) := by decide +kernel
theorem dX9_cardOf_24 : decode cX9_cardOf 24 = .ok (.getfield 10, 3) := by decide +kernel
theorem dX9_cardOf_27 : decode cX9_cardOf 27 = .ok (.getfield 98, 3) := by decide +kernel
theorem dX9_cardOf_30 : decode cX9_cardOf 30 = .ok (.aload_n 0, 1) := by decide +kernel
theorem dX9_cardOf_31 : decode cX9_cardOf 31 = .ok (.getfield 55, 3) := by decide +kernel
theorem dX9_cardOf_34 : decode cX9_cardOf 34 = .ok (.iload_n 2, 1) := by decide +kernel
theorem dX9_cardOf_35 : decode cX9_cardOf 35 = .ok (.aload_n 0, 1) := by decide +kernel
theorem dX9_cardOf_36 : decode cX9_cardOf 36 = .ok (.getfield 10, 3) := by decide +kernel
theorem dX9_cardOf_39 : decode cX9_cardOf 39 = .ok (.getfield 238, 3) := by decide +kernel
theorem dX9_cardOf_42 : decode cX9_cardOf 42 = .ok (.invokevirtual 396, 3) := by decide +kernel
theorem dX9_cardOf_45 : decode cX9_cardOf 45 = .ok (.aload_n 0, 1) := by decide +kernel
theorem dX9_cardOf_46 : decode cX9_cardOf 46 = .ok (.getfield 51, 3) := by decide +kernel
theorem dX9_cardOf_49 : decode cX9_cardOf 49 = .ok (.areturn, 1) := by decide +kernel
theorem dX9_soldCard_0 : decode cX9_soldCard 0 = .ok (.aload_n 0, 1) := by decide +kernel
theorem dX9_soldCard_1 : decode cX9_soldCard 1 = .ok (.iload_n 1, 1) := by decide +kernel
theorem dX9_soldCard_2 : decode cX9_soldCard 2 = .ok (.invokevirtual 228, 3) := by decide +kernel
theorem dX9_soldCard_5 : decode cX9_soldCard 5 = .ok (.ifCond .eq 28, 3) := by decide +kernel
theorem dX9_soldCard_8 : decode cX9_soldCard 8 = .ok (.aload_n 0, 1) := by decide +kernel
theorem dX9_soldCard_9 : decode cX9_soldCard 9 = .ok (.getfield 51, 3) := by decide +kernel
theorem dX9_soldCard_12 : decode cX9_soldCard 12 = .ok (.aload_n 0, 1) := by decide +kernel
theorem dX9_soldCard_13 : decode cX9_soldCard 13 = .ok (.getfield 10, 3) := by decide +kernel
theorem dX9_soldCard_16 : decode cX9_soldCard 16 = .ok (.getfield 98, 3) := by decide +kernel
theorem dX9_soldCard_19 : decode cX9_soldCard 19 = .ok (.aload_n 0, 1) := by decide +kernel
theorem dX9_soldCard_20 : decode cX9_soldCard 20 = .ok (.getfield 10, 3) := by decide +kernel
theorem dX9_soldCard_23 : decode cX9_soldCard 23 = .ok (.getfield 400, 3) := by decide +kernel
theorem dX9_soldCard_26 : decode cX9_soldCard 26 = .ok (.iload_n 1, 1) := by decide +kernel
theorem dX9_soldCard_27 : decode cX9_soldCard 27 = .ok (.aaload, 1) := by decide +kernel
theorem dX9_soldCard_28 : decode cX9_soldCard 28 = .ok (.iload_n 2, 1) := by decide +kernel
theorem dX9_soldCard_29 : decode cX9_soldCard 29 = .ok (.aload_n 3, 1) := by decide +kernel
theorem dX9_soldCard_30 : decode cX9_soldCard 30 = .ok (.invokevirtual 396, 3) := by decide +kernel
theorem dX9_soldCard_33 : decode cX9_soldCard 33 = .ok (.aload_n 0, 1) := by decide +kernel
theorem dX9_soldCard_34 : decode cX9_soldCard 34 = .ok (.getfield 51, 3) := by decide +kernel
theorem dX9_soldCard_37 : decode cX9_soldCard 37 = .ok (.areturn, 1) := by decide +kernel
theorem dX9_areSame_0 : decode cX9_areSame 0 = .ok (.iconst 0, 1) := by decide +kernel
theorem dX9_areSame_1 : decode cX9_areSame 1 = .ok (.istore_n 2, 1) := by decide +kernel
theorem dX9_areSame_2 : decode cX9_areSame 2 = .ok (.iload_n 2, 1) := by decide +kernel
theorem dX9_areSame_3 : decode cX9_areSame 3 = .ok (.bipush 45, 2) := by decide +kernel
theorem dX9_areSame_5 : decode cX9_areSame 5 = .ok (.if_icmp .ge 20, 3) := by decide +kernel
theorem dX9_areSame_8 : decode cX9_areSame 8 = .ok (.aload_n 0, 1) := by decide +kernel
theorem dX9_areSame_9 : decode cX9_areSame 9 = .ok (.iload_n 2, 1) := by decide +kernel
theorem dX9_areSame_10 : decode cX9_areSame 10 = .ok (.iaload, 1) := by decide +kernel
theorem dX9_areSame_11 : decode cX9_areSame 11 = .ok (.aload_n 1, 1) := by decide +kernel
theorem dX9_areSame_12 : decode cX9_areSame 12 = .ok (.iload_n 2, 1) := by decide +kernel
theorem dX9_areSame_13 : decode cX9_areSame 13 = .ok (.iaload, 1) := by decide +kernel
theorem dX9_areSame_14 : decode cX9_areSame 14 = .ok (.if_icmp .eq 5, 3) := by decide +kernel
theorem dX9_areSame_17 : decode cX9_areSame 17 = .ok (.iconst 0, 1) := by decide +kernel
theorem dX9_areSame_18 : decode cX9_areSame 18 = .ok (.ireturn, 1) := by decide +kernel
theorem dX9_areSame_19 : decode cX9_areSame 19 = .ok (.iinc 2 1, 3) := by decide +kernel
theorem dX9_areSame_22 : decode cX9_areSame 22 = .ok (.goto (-20), 3) := by decide +kernel
theorem dX9_areSame_25 : decode cX9_areSame 25 = .ok (.iconst 1, 1) := by decide +kernel
theorem dX9_areSame_26 : decode cX9_areSame 26 = .ok (.ireturn, 1) := by decide +kernel
theorem dX9_noteTurns_0 : decode cX9_noteTurns 0 = .ok (.iconst 0, 1) := by decide +kernel
theorem dX9_noteTurns_1 : decode cX9_noteTurns 1 = .ok (.istore_n 3, 1) := by decide +kernel
theorem dX9_noteTurns_2 : decode cX9_noteTurns 2 = .ok (.iload_n 3, 1) := by decide +kernel
theorem dX9_noteTurns_3 : decode cX9_noteTurns 3 = .ok (.iload_n 1, 1) := by decide +kernel
theorem dX9_noteTurns_4 : decode cX9_noteTurns 4 = .ok (.if_icmp .ge 39, 3) := by decide +kernel
theorem dX9_noteTurns_7 : decode cX9_noteTurns 7 = .ok (.iload_n 3, 1) := by decide +kernel
theorem dX9_noteTurns_8 : decode cX9_noteTurns 8 = .ok (.aload_n 0, 1) := by decide +kernel
theorem dX9_noteTurns_9 : decode cX9_noteTurns 9 = .ok (.arraylength, 1) := by decide +kernel
theorem dX9_noteTurns_10 : decode cX9_noteTurns 10 = .ok (.if_icmp .ge 33, 3) := by decide +kernel
theorem dX9_noteTurns_13 : decode cX9_noteTurns 13 = .ok (.aload_n 0, 1) := by decide +kernel
theorem dX9_noteTurns_14 : decode cX9_noteTurns 14 = .ok (.iload_n 3, 1) := by decide +kernel
theorem dX9_noteTurns_15 : decode cX9_noteTurns 15 = .ok (.iaload, 1) := by decide +kernel
theorem dX9_noteTurns_16 : decode cX9_noteTurns 16 = .ok (.istore 4, 2) := by decide +kernel
theorem dX9_noteTurns_18 : decode cX9_noteTurns 18 = .ok (.iload 4, 2) := by decide +kernel
theorem dX9_noteTurns_20 : decode cX9_noteTurns 20 = .ok (.ifCond .lt 17, 3) := by decide +kernel
theorem dX9_noteTurns_23 : decode cX9_noteTurns 23 = .ok (.iload 4, 2) := by decide +kernel
theorem dX9_noteTurns_25 : decode cX9_noteTurns 25 = .ok (.aload_n 2, 1) := by decide +kernel
theorem dX9_noteTurns_26 : decode cX9_noteTurns 26 = .ok (.arraylength, 1) := by decide +kernel
theorem dX9_noteTurns_27 : decode cX9_noteTurns 27 = .ok (.if_icmp .ge 10, 3) := by decide +kernel
theorem dX9_noteTurns_30 : decode cX9_noteTurns 30 = .ok (.aload_n 2, 1) := by decide +kernel
theorem dX9_noteTurns_31 : decode cX9_noteTurns 31 = .ok (.iload 4, 2) := by decide +kernel
theorem dX9_noteTurns_33 : decode cX9_noteTurns 33 = .ok (.iload_n 3, 1) := by decide +kernel
theorem dX9_noteTurns_34 : decode cX9_noteTurns 34 = .ok (.iconst 1, 1) := by decide +kernel
theorem dX9_noteTurns_35 : decode cX9_noteTurns 35 = .ok (.iadd, 1) := by decide +kernel
theorem dX9_noteTurns_36 : decode cX9_noteTurns 36 = .ok (.iastore, 1) := by decide +kernel
theorem dX9_noteTurns_37 : decode cX9_noteTurns 37 = .ok (.iinc 3 1, 3) := by decide +kernel
theorem dX9_noteTurns_40 : decode cX9_noteTurns 40 = .ok (.goto (-38), 3) := by decide +kernel
theorem dX9_noteTurns_43 : decode cX9_noteTurns 43 = .ok (.return_, 1) := by decide +kernel
theorem dX9_sortRising_0 : decode cX9_sortRising 0 = .ok (.iconst 1, 1) := by decide +kernel
theorem dX9_sortRising_1 : decode cX9_sortRising 1 = .ok (.istore_n 2, 1) := by decide +kernel
theorem dX9_sortRising_2 : decode cX9_sortRising 2 = .ok (.iload_n 2, 1) := by decide +kernel
theorem dX9_sortRising_3 : decode cX9_sortRising 3 = .ok (.iload_n 1, 1) := by decide +kernel
theorem dX9_sortRising_4 : decode cX9_sortRising 4 = .ok (.if_icmp .ge 58, 3) := by decide +kernel
theorem dX9_sortRising_7 : decode cX9_sortRising 7 = .ok (.iload_n 2, 1) := by decide +kernel
theorem dX9_sortRising_8 : decode cX9_sortRising 8 = .ok (.aload_n 0, 1) := by decide +kernel
theorem dX9_sortRising_9 : decode cX9_sortRising 9 = .ok (.arraylength, 1) := by decide +kernel
theorem dX9_sortRising_10 : decode cX9_sortRising 10 = .ok (.if_icmp .ge 52, 3) := by decide +kernel
theorem dX9_sortRising_13 : decode cX9_sortRising 13 = .ok (.aload_n 0, 1) := by decide +kernel
theorem dX9_sortRising_14 : decode cX9_sortRising 14 = .ok (.iload_n 2, 1) := by decide +kernel
theorem dX9_sortRising_15 : decode cX9_sortRising 15 = .ok (.iaload, 1) := by decide +kernel
theorem dX9_sortRising_16 : decode cX9_sortRising 16 = .ok (.istore_n 3, 1) := by decide +kernel
theorem dX9_sortRising_17 : decode cX9_sortRising 17 = .ok (.iload_n 2, 1) := by decide +kernel
theorem dX9_sortRising_18 : decode cX9_sortRising 18 = .ok (.istore 4, 2) := by decide +kernel
theorem dX9_sortRising_20 : decode cX9_sortRising 20 = .ok (.iload 4, 2) := by decide +kernel
theorem dX9_sortRising_22 : decode cX9_sortRising 22 = .ok (.ifCond .le 29, 3) := by decide +kernel
theorem dX9_sortRising_25 : decode cX9_sortRising 25 = .ok (.aload_n 0, 1) := by decide +kernel
theorem dX9_sortRising_26 : decode cX9_sortRising 26 = .ok (.iload 4, 2) := by decide +kernel
theorem dX9_sortRising_28 : decode cX9_sortRising 28 = .ok (.iconst 1, 1) := by decide +kernel
theorem dX9_sortRising_29 : decode cX9_sortRising 29 = .ok (.isub, 1) := by decide +kernel
theorem dX9_sortRising_30 : decode cX9_sortRising 30 = .ok (.iaload, 1) := by decide +kernel
theorem dX9_sortRising_31 : decode cX9_sortRising 31 = .ok (.iload_n 3, 1) := by decide +kernel
theorem dX9_sortRising_32 : decode cX9_sortRising 32 = .ok (.if_icmp .le 19, 3) := by decide +kernel
theorem dX9_sortRising_35 : decode cX9_sortRising 35 = .ok (.aload_n 0, 1) := by decide +kernel
theorem dX9_sortRising_36 : decode cX9_sortRising 36 = .ok (.iload 4, 2) := by decide +kernel
theorem dX9_sortRising_38 : decode cX9_sortRising 38 = .ok (.aload_n 0, 1) := by decide +kernel
theorem dX9_sortRising_39 : decode cX9_sortRising 39 = .ok (.iload 4, 2) := by decide +kernel
theorem dX9_sortRising_41 : decode cX9_sortRising 41 = .ok (.iconst 1, 1) := by decide +kernel
theorem dX9_sortRising_42 : decode cX9_sortRising 42 = .ok (.isub, 1) := by decide +kernel
theorem dX9_sortRising_43 : decode cX9_sortRising 43 = .ok (.iaload, 1) := by decide +kernel
theorem dX9_sortRising_44 : decode cX9_sortRising 44 = .ok (.iastore, 1) := by decide +kernel
theorem dX9_sortRising_45 : decode cX9_sortRising 45 = .ok (.iinc 4 (-1), 3) := by decide +kernel
theorem dX9_sortRising_48 : decode cX9_sortRising 48 = .ok (.goto (-28), 3) := by decide +kernel
theorem dX9_sortRising_51 : decode cX9_sortRising 51 = .ok (.aload_n 0, 1) := by decide +kernel
theorem dX9_sortRising_52 : decode cX9_sortRising 52 = .ok (.iload 4, 2) := by decide +kernel
theorem dX9_sortRising_54 : decode cX9_sortRising 54 = .ok (.iload_n 3, 1) := by decide +kernel
theorem dX9_sortRising_55 : decode cX9_sortRising 55 = .ok (.iastore, 1) := by decide +kernel
theorem dX9_sortRising_56 : decode cX9_sortRising 56 = .ok (.iinc 2 1, 3) := by decide +kernel
theorem dX9_sortRising_59 : decode cX9_sortRising 59 = .ok (.goto (-57), 3) := by decide +kernel
theorem dX9_sortRising_62 : decode cX9_sortRising 62 = .ok (.return_, 1) := by decide +kernel
