theorem dX3_steady_106 : decode cX3_steady 106 = .ok (.getfield 43, 3) := by decide +kernel
theorem dX3_steady_109 : decode cX3_steady 109 = .ok (.iload 4, 2) := by decide +kernel
theorem dX3_steady_111 : decode cX3_steady 111 = .ok (.iaload, 1) := by decide +kernel
theorem dX3_steady_112 : decode cX3_steady 112 = .ok (.aload_n 0, 1) := by decide +kernel
theorem dX3_steady_113 : decode cX3_steady 113 = .ok (.getfield 22, 3) := by decide +kernel
theorem dX3_steady_116 : decode cX3_steady 116 = .ok (.iload 4, 2) := by decide +kernel
theorem dX3_steady_118 : decode cX3_steady 118 = .ok (.iaload, 1) := by decide +kernel
theorem dX3_steady_119 : decode cX3_steady 119 = .ok (.if_icmp .ne 7, 3) := by decide +kernel
theorem dX3_steady_122 : decode cX3_steady 122 = .ok (.iconst 1, 1) := by decide +kernel
theorem dX3_steady_123 : decode cX3_steady 123 = .ok (.goto 4, 3) := by decide +kernel
theorem dX3_steady_126 : decode cX3_steady 126 = .ok (.iconst 0, 1) := by decide +kernel
theorem dX3_steady_127 : decode cX3_steady 127 = .ok (.istore_n 3, 1) := by decide +kernel
theorem dX3_steady_128 : decode cX3_steady 128 = .ok (.iinc 4 1, 3) := by decide +kernel
theorem dX3_steady_131 : decode cX3_steady 131 = .ok (.goto (-39), 3) := by decide +kernel
theorem dX3_steady_134 : decode cX3_steady 134 = .ok (.iload_n 3, 1) := by decide +kernel
theorem dX3_steady_135 : decode cX3_steady 135 = .ok (.ifCond .eq 5, 3) := by decide +kernel
theorem dX3_steady_138 : decode cX3_steady 138 = .ok (.iload_n 2, 1) := by decide +kernel
theorem dX3_steady_139 : decode cX3_steady 139 = .ok (.ireturn, 1) := by decide +kernel
theorem dX3_steady_140 : decode cX3_steady 140 = .ok (.iinc 2 1, 3) := by decide +kernel
theorem dX3_steady_143 : decode cX3_steady 143 = .ok (.goto (-109), 3) := by decide +kernel
theorem dX3_steady_146 : decode cX3_steady 146 = .ok (.iconst (-1), 1) := by decide +kernel
theorem dX3_steady_147 : decode cX3_steady 147 = .ok (.ireturn, 1) := by decide +kernel
theorem dX3_sum_0 : decode cX3_sum 0 = .ok (.iload_n 1, 1) := by decide +kernel
theorem dX3_sum_1 : decode cX3_sum 1 = .ok (.i2l, 1) := by decide +kernel
theorem dX3_sum_2 : decode cX3_sum 2 = .ok (.lconst 0, 1) := by decide +kernel
theorem dX3_sum_3 : decode cX3_sum 3 = .ok (.ldc2_w 90, 3) := by decide +kernel
theorem dX3_sum_6 : decode cX3_sum 6 = .ok (.invokestatic 77, 3) := by decide +kernel
theorem dX3_sum_9 : decode cX3_sum 9 = .ok (.ifCond .eq 12, 3) := by decide +kernel
theorem dX3_sum_12 : decode cX3_sum 12 = .ok (.aload_n 0, 1) := by decide +kernel
theorem dX3_sum_13 : decode cX3_sum 13 = .ok (.getfield 37, 3) := by decide +kernel
theorem dX3_sum_16 : decode cX3_sum 16 = .ok (.iload_n 1, 1) := by decide +kernel
theorem dX3_sum_17 : decode cX3_sum 17 = .ok (.iaload, 1) := by decide +kernel
theorem dX3_sum_18 : decode cX3_sum 18 = .ok (.goto 5, 3) := by decide +kernel
theorem dX3_sum_21 : decode cX3_sum 21 = .ok (.ldc 137, 2) := by decide +kernel
theorem dX3_sum_23 : decode cX3_sum 23 = .ok (.ireturn, 1) := by decide +kernel
theorem dX3_isHour_0 : decode cX3_isHour 0 = .ok (.iload_n 1, 1) := by decide +kernel
theorem dX3_isHour_1 : decode cX3_isHour 1 = .ok (.i2l, 1) := by decide +kernel
theorem dX3_isHour_2 : decode cX3_isHour 2 = .ok (.lconst 0, 1) := by decide +kernel
theorem dX3_isHour_3 : decode cX3_isHour 3 = .ok (.aload_n 0, 1) := by decide +kernel
theorem dX3_isHour_4 : decode cX3_isHour 4 = .ok (.getfield 108, 3) := by decide +kernel
theorem dX3_isHour_7 : decode cX3_isHour 7 = .ok (.iconst 1, 1) := by decide +kernel
theorem dX3_isHour_8 : decode cX3_isHour 8 = .ok (.isub, 1) := by decide +kernel
theorem dX3_isHour_9 : decode cX3_isHour 9 = .ok (.i2l, 1) := by decide +kernel
theorem dX3_isHour_10 : decode cX3_isHour 10 = .ok (.invokestatic 77, 3) := by decide +kernel
theorem dX3_isHour_13 : decode cX3_isHour 13 = .ok (.ireturn, 1) := by decide +kernel
theorem dX3_plain_0 : decode cX3_plain 0 = .ok (.iconst 0, 1) := by decide +kernel
theorem dX3_plain_1 : decode cX3_plain 1 = .ok (.istore_n 1, 1) := by decide +kernel
theorem dX3_plain_2 : decode cX3_plain 2 = .ok (.iload_n 1, 1) := by decide +kernel
theorem dX3_plain_3 : decode cX3_plain 3 = .ok (.aload_n 0, 1) := by decide +kernel
theorem dX3_plain_4 : decode cX3_plain 4 = .ok (.getfield 74, 3) := by decide +kernel
theorem dX3_plain_7 : decode cX3_plain 7 = .ok (.if_icmp .ge 16, 3) := by decide +kernel
theorem dX3_plain_10 : decode cX3_plain 10 = .ok (.aload_n 0, 1) := by decide +kernel
theorem dX3_plain_11 : decode cX3_plain 11 = .ok (.getfield 46, 3) := by decide +kernel
theorem dX3_plain_14 : decode cX3_plain 14 = .ok (.iload_n 1, 1) := by decide +kernel
theorem dX3_plain_15 : decode cX3_plain 15 = .ok (.iload_n 1, 1) := by decide +kernel
theorem dX3_plain_16 : decode cX3_plain 16 = .ok (.iastore, 1) := by decide +kernel
theorem dX3_plain_17 : decode cX3_plain 17 = .ok (.iinc 1 1, 3) := by decide +kernel
theorem dX3_plain_20 : decode cX3_plain 20 = .ok (.goto (-18), 3) := by decide +kernel
theorem dX3_plain_23 : decode cX3_plain 23 = .ok (.return_, 1) := by decide +kernel
theorem dX3_saturation_0 : decode cX3_saturation 0 = .ok (.sipush 600, 3) := by decide +kernel
theorem dX3_saturation_3 : decode cX3_saturation 3 = .ok (.iload_n 0, 1) := by decide +kernel
theorem dX3_saturation_4 : decode cX3_saturation 4 = .ok (.ifCond .ge 8, 3) := by decide +kernel
theorem dX3_saturation_7 : decode cX3_saturation 7 = .ok (.bipush 20, 2) := by decide +kernel
theorem dX3_saturation_9 : decode cX3_saturation 9 = .ok (.goto 5, 3) := by decide +kernel
theorem dX3_saturation_12 : decode cX3_saturation 12 = .ok (.bipush 40, 2) := by decide +kernel
theorem dX3_saturation_14 : decode cX3_saturation 14 = .ok (.iload_n 0, 1) := by decide +kernel
theorem dX3_saturation_15 : decode cX3_saturation 15 = .ok (.imul, 1) := by decide +kernel
theorem dX3_saturation_16 : decode cX3_saturation 16 = .ok (.iadd, 1) := by decide +kernel
theorem dX3_saturation_17 : decode cX3_saturation 17 = .ok (.ireturn, 1) := by decide +kernel
theorem dX3_between_0 : decode cX3_between 0 = .ok (.iload_n 3, 1) := by decide +kernel
theorem dX3_between_1 : decode cX3_between 1 = .ok (.ifCond .eq 11, 3) := by decide +kernel
theorem dX3_between_4 : decode cX3_between 4 = .ok (.iload_n 3, 1) := by decide +kernel
theorem dX3_between_5 : decode cX3_between 5 = .ok (.aload_n 0, 1) := by decide +kernel
theorem dX3_between_6 : decode cX3_between 6 = .ok (.getfield 74, 3) := by decide +kernel
theorem dX3_between_9 : decode cX3_between 9 = .ok (.if_icmp .ne 13, 3) := by decide +kernel
theorem dX3_between_12 : decode cX3_between 12 = .ok (.iload_n 3, 1) := by decide +kernel
theorem dX3_between_13 : decode cX3_between 13 = .ok (.ifCond .ne 7, 3) := by decide +kernel
theorem dX3_between_16 : decode cX3_between 16 = .ok (.iload_n 1, 1) := by decide +kernel
theorem dX3_between_17 : decode cX3_between 17 = .ok (.goto 4, 3) := by decide +kernel
theorem dX3_between_20 : decode cX3_between 20 = .ok (.iload_n 2, 1) := by decide +kernel
theorem dX3_between_21 : decode cX3_between 21 = .ok (.ireturn, 1) := by decide +kernel
theorem dX3_between_22 : decode cX3_between 22 = .ok (.iconst 1, 1) := by decide +kernel
theorem dX3_between_23 : decode cX3_between 23 = .ok (.istore 5, 2) := by decide +kernel
theorem dX3_between_25 : decode cX3_between 25 = .ok (.iconst 2, 1) := by decide +kernel
theorem dX3_between_26 : decode cX3_between 26 = .ok (.istore 6, 2) := by decide +kernel
theorem dX3_between_28 : decode cX3_between 28 = .ok (.iconst 0, 1) := by decide +kernel
theorem dX3_between_29 : decode cX3_between 29 = .ok (.istore 7, 2) := by decide +kernel
theorem dX3_between_31 : decode cX3_between 31 = .ok (.iload 7, 2) := by decide +kernel
theorem dX3_between_33 : decode cX3_between 33 = .ok (.aload_n 0, 1) := by decide +kernel
theorem dX3_between_34 : decode cX3_between 34 = .ok (.getfield 74, 3) := by decide +kernel
theorem dX3_between_37 : decode cX3_between 37 = .ok (.if_icmp .ge 67, 3) := by decide +kernel
theorem dX3_between_40 : decode cX3_between 40 = .ok (.iload 4, 2) := by decide +kernel
theorem dX3_between_42 : decode cX3_between 42 = .ok (.ifCond .eq 18, 3) := by decide +kernel
theorem dX3_between_45 : decode cX3_between 45 = .ok (.aload_n 0, 1) := by decide +kernel
theorem dX3_between_46 : decode cX3_between 46 = .ok (.getfield 13, 3) := by decide +kernel
theorem dX3_between_49 : decode cX3_between 49 = .ok (.aload_n 0, 1) := by decide +kernel
theorem dX3_between_50 : decode cX3_between 50 = .ok (.getfield 46, 3) := by decide +kernel
theorem dX3_between_53 : decode cX3_between 53 = .ok (.iload 7, 2) := by decide +kernel
theorem dX3_between_55 : decode cX3_between 55 = .ok (.iaload, 1) := by decide +kernel
theorem dX3_between_56 : decode cX3_between 56 = .ok (.iaload, 1) := by decide +kernel
theorem dX3_between_57 : decode cX3_between 57 = .ok (.goto 15, 3) := by decide +kernel
theorem dX3_between_60 : decode cX3_between 60 = .ok (.aload_n 0, 1) := by decide +kernel
theorem dX3_between_61 : decode cX3_between 61 = .ok (.getfield 16, 3) := by decide +kernel
theorem dX3_between_64 : decode cX3_between 64 = .ok (.aload_n 0, 1) := by decide +kernel
theorem dX3_between_65 : decode cX3_between 65 = .ok (.getfield 46, 3) := by decide +kernel
theorem dX3_between_68 : decode cX3_between 68 = .ok (.iload 7, 2) := by decide +kernel
theorem dX3_between_70 : decode cX3_between 70 = .ok (.iaload, 1) := by decide +kernel
theorem dX3_between_71 : decode cX3_between 71 = .ok (.iaload, 1) := by decide +kernel
theorem dX3_between_72 : decode cX3_between 72 = .ok (.istore 8, 2) := by decide +kernel
theorem dX3_between_74 : decode cX3_between 74 = .ok (.iload 5, 2) := by decide +kernel
theorem dX3_between_76 : decode cX3_between 76 = .ok (.iload 7, 2) := by decide +kernel
theorem dX3_between_78 : decode cX3_between 78 = .ok (.iload_n 3, 1) := by decide +kernel
theorem dX3_between_79 : decode cX3_between 79 = .ok (.if_icmp .ge 8, 3) := by decide +kernel
theorem dX3_between_82 : decode cX3_between 82 = .ok (.iload 8, 2) := by decide +kernel
theorem dX3_between_84 : decode cX3_between 84 = .ok (.goto 4, 3) := by decide +kernel
theorem dX3_between_87 : decode cX3_between 87 = .ok (.iconst 0, 1) := by decide +kernel
theorem dX3_between_88 : decode cX3_between 88 = .ok (.iadd, 1) := by decide +kernel
theorem dX3_between_89 : decode cX3_between 89 = .ok (.istore 5, 2) := by decide +kernel
theorem dX3_between_91 : decode cX3_between 91 = .ok (.iload 6, 2) := by decide +kernel
theorem dX3_between_93 : decode cX3_between 93 = .ok (.iload 8, 2) := by decide +kernel
theorem dX3_between_95 : decode cX3_between 95 = .ok (.iadd, 1) := by decide +kernel
theorem dX3_between_96 : decode cX3_between 96 = .ok (.istore 6, 2) := by decide +kernel
theorem dX3_between_98 : decode cX3_between 98 = .ok (.iinc 7 1, 3) := by decide +kernel
theorem dX3_between_101 : decode cX3_between 101 = .ok (.goto (-70), 3) := by decide +kernel
theorem dX3_between_104 : decode cX3_between 104 = .ok (.iload_n 1, 1) := by decide +kernel
theorem dX3_between_105 : decode cX3_between 105 = .ok (.iload_n 2, 1) := by decide +kernel
theorem dX3_between_106 : decode cX3_between 106 = .ok (.iload_n 1, 1) := by decide +kernel
theorem dX3_between_107 : decode cX3_between 107 = .ok (.isub, 1) := by decide +kernel
theorem dX3_between_108 : decode cX3_between 108 = .ok (.iload 5, 2) := by decide +kernel
theorem dX3_between_110 : decode cX3_between 110 = .ok (.imul, 1) := by decide +kernel
theorem dX3_between_111 : decode cX3_between 111 = .ok (.iload 6, 2) := by decide +kernel
theorem dX3_between_113 : decode cX3_between 113 = .ok (.invokestatic 123, 3) := by decide +kernel
theorem dX3_between_116 : decode cX3_between 116 = .ok (.iadd, 1) := by decide +kernel
theorem dX3_between_117 : decode cX3_between 117 = .ok (.ireturn, 1) := by decide +kernel
theorem dX3_pressureOf_0 : decode cX3_pressureOf 0 = .ok (.aload_n 0, 1) := by decide +kernel
theorem dX3_pressureOf_1 : decode cX3_pressureOf 1 = .ok (.getfield 40, 3) := by decide +kernel
theorem dX3_pressureOf_4 : decode cX3_pressureOf 4 = .ok (.iconst 5, 1) := by decide +kernel
theorem dX3_pressureOf_5 : decode cX3_pressureOf 5 = .ok (.iload_n 1, 1) := by decide +kernel
theorem dX3_pressureOf_6 : decode cX3_pressureOf 6 = .ok (.imul, 1) := by decide +kernel
theorem dX3_pressureOf_7 : decode cX3_pressureOf 7 = .ok (.iaload, 1) := by decide +kernel
theorem dX3_pressureOf_8 : decode cX3_pressureOf 8 = .ok (.aload_n 0, 1) := by decide +kernel
theorem dX3_pressureOf_9 : decode cX3_pressureOf 9 = .ok (.getfield 40, 3) := by decide +kernel
theorem dX3_pressureOf_12 : decode cX3_pressureOf 12 = .ok (.iconst 5, 1) := by decide +kernel
theorem dX3_pressureOf_13 : decode cX3_pressureOf 13 = .ok (.iload_n 1, 1) := by decide +kernel
theorem dX3_pressureOf_14 : decode cX3_pressureOf 14 = .ok (.imul, 1) := by decide +kernel
theorem dX3_pressureOf_15 : decode cX3_pressureOf 15 = .ok (.iconst 1, 1) := by decide +kernel
theorem dX3_pressureOf_16 : decode cX3_pressureOf 16 = .ok (.iadd, 1) := by decide +kernel
theorem dX3_pressureOf_17 : decode cX3_pressureOf 17 = .ok (.iaload, 1) := by decide +kernel
theorem dX3_pressureOf_18 : decode cX3_pressureOf 18 = .ok (.invokestatic 138, 3) := by decide +kernel
theorem dX3_pressureOf_21 : decode cX3_pressureOf 21 = .ok (.imul, 1) := by decide +kernel
theorem dX3_pressureOf_22 : decode cX3_pressureOf 22 = .ok (.sipush 1000, 3) := by decide +kernel
theorem dX3_pressureOf_25 : decode cX3_pressureOf 25 = .ok (.idiv, 1) := by decide +kernel
theorem dX3_pressureOf_26 : decode cX3_pressureOf 26 = .ok (.istore_n 3, 1) := by decide +kernel
theorem dX3_pressureOf_27 : decode cX3_pressureOf 27 = .ok (.aload_n 0, 1) := by decide +kernel
theorem dX3_pressureOf_28 : decode cX3_pressureOf 28 = .ok (.getfield 40, 3) := by decide +kernel
theorem dX3_pressureOf_31 : decode cX3_pressureOf 31 = .ok (.iconst 5, 1) := by decide +kernel
theorem dX3_pressureOf_32 : decode cX3_pressureOf 32 = .ok (.iload_n 1, 1) := by decide +kernel
theorem dX3_pressureOf_33 : decode cX3_pressureOf 33 = .ok (.imul, 1) := by decide +kernel
theorem dX3_pressureOf_34 : decode cX3_pressureOf 34 = .ok (.iconst 3, 1) := by decide +kernel
theorem dX3_pressureOf_35 : decode cX3_pressureOf 35 = .ok (.iadd, 1) := by decide +kernel
theorem dX3_pressureOf_36 : decode cX3_pressureOf 36 = .ok (.iaload, 1) := by decide +kernel
theorem dX3_pressureOf_37 : decode cX3_pressureOf 37 = .ok (.aload_n 0, 1) := by decide +kernel
theorem dX3_pressureOf_38 : decode cX3_pressureOf 38 = .ok (.getfield 40, 3) := by decide +kernel
theorem dX3_pressureOf_41 : decode cX3_pressureOf 41 = .ok (.iconst 5, 1) := by decide +kernel
theorem dX3_pressureOf_42 : decode cX3_pressureOf 42 = .ok (.iload_n 1, 1) := by decide +kernel
theorem dX3_pressureOf_43 : decode cX3_pressureOf 43 = .ok (.imul, 1) := by decide +kernel
theorem dX3_pressureOf_44 : decode cX3_pressureOf 44 = .ok (.iconst 4, 1) := by decide +kernel
theorem dX3_pressureOf_45 : decode cX3_pressureOf 45 = .ok (.iadd, 1) := by decide +kernel
theorem dX3_pressureOf_46 : decode cX3_pressureOf 46 = .ok (.iaload, 1) := by decide +kernel
theorem dX3_pressureOf_47 : decode cX3_pressureOf 47 = .ok (.invokestatic 138, 3) := by decide +kernel
theorem dX3_pressureOf_50 : decode cX3_pressureOf 50 = .ok (.imul, 1) := by decide +kernel
theorem dX3_pressureOf_51 : decode cX3_pressureOf 51 = .ok (.sipush 1000, 3) := by decide +kernel
theorem dX3_pressureOf_54 : decode cX3_pressureOf 54 = .ok (.idiv, 1) := by decide +kernel
theorem dX3_pressureOf_55 : decode cX3_pressureOf 55 = .ok (.istore 4, 2) := by decide +kernel
theorem dX3_pressureOf_57 : decode cX3_pressureOf 57 = .ok (.aload_n 0, 1) := by decide +kernel
theorem dX3_pressureOf_58 : decode cX3_pressureOf 58 = .ok (.iload_n 3, 1) := by decide +kernel
theorem dX3_pressureOf_59 : decode cX3_pressureOf 59 = .ok (.iload 4, 2) := by decide +kernel
theorem dX3_pressureOf_61 : decode cX3_pressureOf 61 = .ok (.iload_n 2, 1) := by decide +kernel
theorem dX3_pressureOf_62 : decode cX3_pressureOf 62 = .ok (.iconst 1, 1) := by decide +kernel
theorem dX3_pressureOf_63 : decode cX3_pressureOf 63 = .ok (.invokevirtual 141, 3) := by decide +kernel
theorem dX3_pressureOf_66 : decode cX3_pressureOf 66 = .ok (.ireturn, 1) := by decide +kernel
theorem dX3_warmthOf_0 : decode cX3_warmthOf 0 = .ok (.aload_n 0, 1) := by decide +kernel
theorem dX3_warmthOf_1 : decode cX3_warmthOf 1 = .ok (.aload_n 0, 1) := by decide +kernel
theorem dX3_warmthOf_2 : decode cX3_warmthOf 2 = .ok (.getfield 40, 3) := by decide +kernel
theorem dX3_warmthOf_5 : decode cX3_warmthOf 5 = .ok (.iconst 5, 1) := by decide +kernel
theorem dX3_warmthOf_6 : decode cX3_warmthOf 6 = .ok (.iload_n 1, 1) := by decide +kernel
theorem dX3_warmthOf_7 : decode cX3_warmthOf 7 = .ok (.imul, 1) := by decide +kernel
theorem dX3_warmthOf_8 : decode cX3_warmthOf 8 = .ok (.iconst 1, 1) := by decide +kernel
theorem dX3_warmthOf_9 : decode cX3_warmthOf 9 = .ok (.iadd, 1) := by decide +kernel
theorem dX3_warmthOf_10 : decode cX3_warmthOf 10 = .ok (.iaload, 1) := by decide +kernel
theorem dX3_warmthOf_11 : decode cX3_warmthOf 11 = .ok (.aload_n 0, 1) := by decide +kernel
theorem dX3_warmthOf_12 : decode cX3_warmthOf 12 = .ok (.getfield 40, 3) := by decide +kernel
theorem dX3_warmthOf_15 : decode cX3_warmthOf 15 = .ok (.iconst 5, 1) := by decide +kernel
theorem dX3_warmthOf_16 : decode cX3_warmthOf 16 = .ok (.iload_n 1, 1) := by decide +kernel
theorem dX3_warmthOf_17 : decode cX3_warmthOf 17 = .ok (.imul, 1) := by decide +kernel
theorem dX3_warmthOf_18 : decode cX3_warmthOf 18 = .ok (.iconst 4, 1) := by decide +kernel
theorem dX3_warmthOf_19 : decode cX3_warmthOf 19 = .ok (.iadd, 1) := by decide +kernel
theorem dX3_warmthOf_20 : decode cX3_warmthOf 20 = .ok (.iaload, 1) := by decide +kernel
theorem dX3_warmthOf_21 : decode cX3_warmthOf 21 = .ok (.iload_n 2, 1) := by decide +kernel
theorem dX3_warmthOf_22 : decode cX3_warmthOf 22 = .ok (.iconst 0, 1) := by decide +kernel
theorem dX3_warmthOf_23 : decode cX3_warmthOf 23 = .ok (.invokevirtual 141, 3) := by decide +kernel
theorem dX3_warmthOf_26 : decode cX3_warmthOf 26 = .ok (.ireturn, 1) := by decide +kernel
theorem dX3_excessOf_0 : decode cX3_excessOf 0 = .ok (.aload_n 0, 1) := by decide +kernel
theorem dX3_excessOf_1 : decode cX3_excessOf 1 = .ok (.iload_n 1, 1) := by decide +kernel
theorem dX3_excessOf_2 : decode cX3_excessOf 2 = .ok (.iload_n 2, 1) := by decide +kernel
theorem dX3_excessOf_3 : decode cX3_excessOf 3 = .ok (.invokevirtual 145, 3) := by decide +kernel
theorem dX3_excessOf_6 : decode cX3_excessOf 6 = .ok (.aload_n 0, 1) := by decide +kernel
theorem dX3_excessOf_7 : decode cX3_excessOf 7 = .ok (.iload_n 1, 1) := by decide +kernel
theorem dX3_excessOf_8 : decode cX3_excessOf 8 = .ok (.iload_n 2, 1) := by decide +kernel
theorem dX3_excessOf_9 : decode cX3_excessOf 9 = .ok (.invokevirtual 148, 3) := by decide +kernel
theorem dX3_excessOf_12 : decode cX3_excessOf 12 = .ok (.invokestatic 138, 3) := by decide +kernel
theorem dX3_excessOf_15 : decode cX3_excessOf 15 = .ok (.isub, 1) := by decide +kernel
theorem dX3_excessOf_16 : decode cX3_excessOf 16 = .ok (.istore_n 3, 1) := by decide +kernel
theorem dX3_excessOf_17 : decode cX3_excessOf 17 = .ok (.iload_n 3, 1) := by decide +kernel
theorem dX3_excessOf_18 : decode cX3_excessOf 18 = .ok (.ifCond .le 7, 3) := by decide +kernel
theorem dX3_excessOf_21 : decode cX3_excessOf 21 = .ok (.iload_n 3, 1) := by decide +kernel
theorem dX3_excessOf_22 : decode cX3_excessOf 22 = .ok (.goto 4, 3) := by decide +kernel
theorem dX3_excessOf_25 : decode cX3_excessOf 25 = .ok (.iconst 0, 1) := by decide +kernel
theorem dX3_excessOf_26 : decode cX3_excessOf 26 = .ok (.ireturn, 1) := by decide +kernel
theorem dX3_refusal_0 : decode cX3_refusal 0 = .ok (.aload_n 0, 1) := by decide +kernel
theorem dX3_refusal_1 : decode cX3_refusal 1 = .ok (.iload_n 1, 1) := by decide +kernel
theorem dX3_refusal_2 : decode cX3_refusal 2 = .ok (.invokevirtual 151, 3) := by decide +kernel
theorem dX3_refusal_5 : decode cX3_refusal 5 = .ok (.ifCond .ne 8, 3) := by decide +kernel
theorem dX3_refusal_8 : decode cX3_refusal 8 = .ok (.bipush (-101), 2) := by decide +kernel
theorem dX3_refusal_10 : decode cX3_refusal 10 = .ok (.goto 16, 3) := by decide +kernel
theorem dX3_refusal_13 : decode cX3_refusal 13 = .ok (.aload_n 0, 1) := by decide +kernel
theorem dX3_refusal_14 : decode cX3_refusal 14 = .ok (.getfield 74, 3) := by decide +kernel
theorem dX3_refusal_17 : decode cX3_refusal 17 = .ok (.ifCond .ne 8, 3) := by decide +kernel
theorem dX3_refusal_20 : decode cX3_refusal 20 = .ok (.bipush (-103), 2) := by decide +kernel
theorem dX3_refusal_22 : decode cX3_refusal 22 = .ok (.goto 4, 3) := by decide +kernel
theorem dX3_refusal_25 : decode cX3_refusal 25 = .ok (.iconst 0, 1) := by decide +kernel
theorem dX3_refusal_26 : decode cX3_refusal 26 = .ok (.ireturn, 1) := by decide +kernel
theorem dX3_pressure_0 : decode cX3_pressure 0 = .ok (.aload_n 0, 1) := by decide +kernel
theorem dX3_pressure_1 : decode cX3_pressure 1 = .ok (.iload_n 1, 1) := by decide +kernel
theorem dX3_pressure_2 : decode cX3_pressure 2 = .ok (.invokevirtual 154, 3) := by decide +kernel
theorem dX3_pressure_5 : decode cX3_pressure 5 = .ok (.istore_n 3, 1) := by decide +kernel
theorem dX3_pressure_6 : decode cX3_pressure 6 = .ok (.iload_n 3, 1) := by decide +kernel
theorem dX3_pressure_7 : decode cX3_pressure 7 = .ok (.ifCond .ne 17, 3) := by decide +kernel
theorem dX3_pressure_10 : decode cX3_pressure 10 = .ok (.iload_n 2, 1) := by decide +kernel
theorem dX3_pressure_11 : decode cX3_pressure 11 = .ok (.i2l, 1) := by decide +kernel
theorem dX3_pressure_12 : decode cX3_pressure 12 = .ok (.lconst 0, 1) := by decide +kernel
theorem dX3_pressure_13 : decode cX3_pressure 13 = .ok (.aload_n 0, 1) := by decide +kernel
theorem dX3_pressure_14 : decode cX3_pressure 14 = .ok (.getfield 74, 3) := by decide +kernel
theorem dX3_pressure_17 : decode cX3_pressure 17 = .ok (.i2l, 1) := by decide +kernel
theorem dX3_pressure_18 : decode cX3_pressure 18 = .ok (.invokestatic 77, 3) := by decide +kernel
theorem dX3_pressure_21 : decode cX3_pressure 21 = .ok (.ifCond .ne 19, 3) := by decide +kernel
theorem dX3_pressure_24 : decode cX3_pressure 24 = .ok (.iload_n 3, 1) := by decide +kernel
theorem dX3_pressure_25 : decode cX3_pressure 25 = .ok (.bipush (-103), 2) := by decide +kernel
theorem dX3_pressure_27 : decode cX3_pressure 27 = .ok (.if_icmp .ne 9, 3) := by decide +kernel
theorem dX3_pressure_30 : decode cX3_pressure 30 = .ok (.sipush (-10103), 3) := by decide +kernel
theorem dX3_pressure_33 : decode cX3_pressure 33 = .ok (.goto 6, 3) := by decide +kernel
theorem dX3_pressure_36 : decode cX3_pressure 36 = .ok (.sipush (-10101), 3) := by decide +kernel
theorem dX3_pressure_39 : decode cX3_pressure 39 = .ok (.ireturn, 1) := by decide +kernel
theorem dX3_pressure_40 : decode cX3_pressure 40 = .ok (.aload_n 0, 1) := by decide +kernel
theorem dX3_pressure_41 : decode cX3_pressure 41 = .ok (.invokevirtual 157, 3) := by decide +kernel
theorem dX3_pressure_44 : decode cX3_pressure 44 = .ok (.aload_n 0, 1) := by decide +kernel
theorem dX3_pressure_45 : decode cX3_pressure 45 = .ok (.iload_n 1, 1) := by decide +kernel
theorem dX3_pressure_46 : decode cX3_pressure 46 = .ok (.iload_n 2, 1) := by decide +kernel
theorem dX3_pressure_47 : decode cX3_pressure 47 = .ok (.invokevirtual 145, 3) := by decide +kernel
theorem dX3_pressure_50 : decode cX3_pressure 50 = .ok (.ireturn, 1) := by decide +kernel
theorem dX3_warmth_0 : decode cX3_warmth 0 = .ok (.aload_n 0, 1) := by decide +kernel
theorem dX3_warmth_1 : decode cX3_warmth 1 = .ok (.iload_n 1, 1) := by decide +kernel
theorem dX3_warmth_2 : decode cX3_warmth 2 = .ok (.invokevirtual 154, 3) := by decide +kernel
theorem dX3_warmth_5 : decode cX3_warmth 5 = .ok (.istore_n 3, 1) := by decide +kernel
theorem dX3_warmth_6 : decode cX3_warmth 6 = .ok (.iload_n 3, 1) := by decide +kernel
theorem dX3_warmth_7 : decode cX3_warmth 7 = .ok (.ifCond .ne 17, 3) := by decide +kernel
theorem dX3_warmth_10 : decode cX3_warmth 10 = .ok (.iload_n 2, 1) := by decide +kernel
theorem dX3_warmth_11 : decode cX3_warmth 11 = .ok (.i2l, 1) := by decide +kernel
theorem dX3_warmth_12 : decode cX3_warmth 12 = .ok (.lconst 0, 1) := by decide +kernel
theorem dX3_warmth_13 : decode cX3_warmth 13 = .ok (.aload_n 0, 1) := by decide +kernel
theorem dX3_warmth_14 : decode cX3_warmth 14 = .ok (.getfield 74, 3) := by decide +kernel
theorem dX3_warmth_17 : decode cX3_warmth 17 = .ok (.i2l, 1) := by decide +kernel
theorem dX3_warmth_18 : decode cX3_warmth 18 = .ok (.invokestatic 77, 3) := by decide +kernel
theorem dX3_warmth_21 : decode cX3_warmth 21 = .ok (.ifCond .ne 19, 3) := by decide +kernel
theorem dX3_warmth_24 : decode cX3_warmth 24 = .ok (.iload_n 3, 1) := by decide +kernel
theorem dX3_warmth_25 : decode cX3_warmth 25 = .ok (.bipush (-103), 2) := by decide +kernel
theorem dX3_warmth_27 : decode cX3_warmth 27 = .ok (.if_icmp .ne 9, 3) := by decide +kernel
theorem dX3_warmth_30 : decode cX3_warmth 30 = .ok (.sipush (-10103), 3) := by decide +kernel
theorem dX3_warmth_33 : decode cX3_warmth 33 = .ok (.goto 6, 3) := by decide +kernel
theorem dX3_warmth_36 : decode cX3_warmth 36 = .ok (.sipush (-10101), 3) := by decide +kernel
theorem dX3_warmth_39 : decode cX3_warmth 39 = .ok (.ireturn, 1) := by decide +kernel
theorem dX3_warmth_40 : decode cX3_warmth 40 = .ok (.aload_n 0, 1) := by decide +kernel
theorem dX3_warmth_41 : decode cX3_warmth 41 = .ok (.invokevirtual 157, 3) := by decide +kernel
theorem dX3_warmth_44 : decode cX3_warmth 44 = .ok (.aload_n 0, 1) := by decide +kernel
theorem dX3_warmth_45 : decode cX3_warmth 45 = .ok (.iload_n 1, 1) := by decide +kernel
theorem dX3_warmth_46 : decode cX3_warmth 46 = .ok (.iload_n 2, 1) := by decide +kernel
theorem dX3_warmth_47 : decode cX3_warmth 47 = .ok (.invokevirtual 148, 3) := by decide +kernel
theorem dX3_warmth_50 : decode cX3_warmth 50 = .ok (.ireturn, 1) := by decide +kernel
theorem dX3_excess_0 : decode cX3_excess 0 = .ok (.aload_n 0, 1) := by decide +kernel
theorem dX3_excess_1 : decode cX3_excess 1 = .ok (.iload_n 1, 1) := by decide +kernel
theorem dX3_excess_2 : decode cX3_excess 2 = .ok (.invokevirtual 154, 3) := by decide +kernel
theorem dX3_excess_5 : decode cX3_excess 5 = .ok (.istore_n 3, 1) := by decide +kernel
theorem dX3_excess_6 : decode cX3_excess 6 = .ok (.iload_n 3, 1) := by decide +kernel
theorem dX3_excess_7 : decode cX3_excess 7 = .ok (.ifCond .eq 5, 3) := by decide +kernel
theorem dX3_excess_10 : decode cX3_excess 10 = .ok (.iload_n 3, 1) := by decide +kernel
theorem dX3_excess_11 : decode cX3_excess 11 = .ok (.ireturn, 1) := by decide +kernel
theorem dX3_excess_12 : decode cX3_excess 12 = .ok (.iload_n 2, 1) := by decide +kernel
theorem dX3_excess_13 : decode cX3_excess 13 = .ok (.i2l, 1) := by decide +kernel
theorem dX3_excess_14 : decode cX3_excess 14 = .ok (.lconst 1, 1) := by decide +kernel
theorem dX3_excess_15 : decode cX3_excess 15 = .ok (.aload_n 0, 1) := by decide +kernel
theorem dX3_excess_16 : decode cX3_excess 16 = .ok (.getfield 74, 3) := by decide +kernel
theorem dX3_excess_19 : decode cX3_excess 19 = .ok (.iconst 1, 1) := by decide +kernel
theorem dX3_excess_20 : decode cX3_excess 20 = .ok (.isub, 1) := by decide +kernel
theorem dX3_excess_21 : decode cX3_excess 21 = .ok (.i2l, 1) := by decide +kernel
theorem dX3_excess_22 : decode cX3_excess 22 = .ok (.invokestatic 77, 3) := by decide +kernel
theorem dX3_excess_25 : decode cX3_excess 25 = .ok (.ifCond .ne 6, 3) := by decide +kernel
theorem dX3_excess_28 : decode cX3_excess 28 = .ok (.bipush (-101), 2) := by decide +kernel
theorem dX3_excess_30 : decode cX3_excess 30 = .ok (.ireturn, 1) := by decide +kernel
theorem dX3_excess_31 : decode cX3_excess 31 = .ok (.aload_n 0, 1) := by decide +kernel
theorem dX3_excess_32 : decode cX3_excess 32 = .ok (.invokevirtual 157, 3) := by decide +kernel
theorem dX3_excess_35 : decode cX3_excess 35 = .ok (.aload_n 0, 1) := by decide +kernel
theorem dX3_excess_36 : decode cX3_excess 36 = .ok (.iload_n 1, 1) := by decide +kernel
theorem dX3_excess_37 : decode cX3_excess 37 = .ok (.iload_n 2, 1) := by decide +kernel
theorem dX3_excess_38 : decode cX3_excess 38 = .ok (.invokevirtual 160, 3) := by decide +kernel
theorem dX3_excess_41 : decode cX3_excess 41 = .ok (.ireturn, 1) := by decide +kernel
theorem dX3_goOnOrder_0 : decode cX3_goOnOrder 0 = .ok (.aload_n 0, 1) := by decide +kernel
theorem dX3_goOnOrder_1 : decode cX3_goOnOrder 1 = .ok (.getfield 74, 3) := by decide +kernel
theorem dX3_goOnOrder_4 : decode cX3_goOnOrder 4 = .ok (.iconst 2, 1) := by decide +kernel
theorem dX3_goOnOrder_5 : decode cX3_goOnOrder 5 = .ok (.isub, 1) := by decide +kernel
theorem dX3_goOnOrder_6 : decode cX3_goOnOrder 6 = .ok (.istore_n 1, 1) := by decide +kernel
theorem dX3_goOnOrder_7 : decode cX3_goOnOrder 7 = .ok (.iload_n 1, 1) := by decide +kernel
theorem dX3_goOnOrder_8 : decode cX3_goOnOrder 8 = .ok (.ifCond .lt 26, 3) := by decide +kernel
theorem dX3_goOnOrder_11 : decode cX3_goOnOrder 11 = .ok (.aload_n 0, 1) := by decide +kernel
theorem dX3_goOnOrder_12 : decode cX3_goOnOrder 12 = .ok (.getfield 46, 3) := by decide +kernel
theorem dX3_goOnOrder_15 : decode cX3_goOnOrder 15 = .ok (.iload_n 1, 1) := by decide +kernel
theorem dX3_goOnOrder_16 : decode cX3_goOnOrder 16 = .ok (.iaload, 1) := by decide +kernel
theorem dX3_goOnOrder_17 : decode cX3_goOnOrder 17 = .ok (.aload_n 0, 1) := by decide +kernel
theorem dX3_goOnOrder_18 : decode cX3_goOnOrder 18 = .ok (.getfield 46, 3) := by decide +kernel
theorem dX3_goOnOrder_21 : decode cX3_goOnOrder 21 = .ok (.iload_n 1, 1) := by decide +kernel
theorem dX3_goOnOrder_22 : decode cX3_goOnOrder 22 = .ok (.iconst 1, 1) := by decide +kernel
theorem dX3_goOnOrder_23 : decode cX3_goOnOrder 23 = .ok (.iadd, 1) := by decide +kernel
theorem dX3_goOnOrder_24 : decode cX3_goOnOrder 24 = .ok (.iaload, 1) := by decide +kernel
theorem dX3_goOnOrder_25 : decode cX3_goOnOrder 25 = .ok (.if_icmp .le 9, 3) := by decide +kernel
theorem dX3_goOnOrder_28 : decode cX3_goOnOrder 28 = .ok (.iinc 1 (-1), 3) := by decide +kernel
theorem dX3_goOnOrder_31 : decode cX3_goOnOrder 31 = .ok (.goto (-24), 3) := by decide +kernel
theorem dX3_goOnOrder_34 : decode cX3_goOnOrder 34 = .ok (.iload_n 1, 1) := by decide +kernel
theorem dX3_goOnOrder_35 : decode cX3_goOnOrder 35 = .ok (.ifCond .ge 5, 3) := by decide +kernel
theorem dX3_goOnOrder_38 : decode cX3_goOnOrder 38 = .ok (.iconst 0, 1) := by decide +kernel
theorem dX3_goOnOrder_39 : decode cX3_goOnOrder 39 = .ok (.ireturn, 1) := by decide +kernel
theorem dX3_goOnOrder_40 : decode cX3_goOnOrder 40 = .ok (.aload_n 0, 1) := by decide +kernel
theorem dX3_goOnOrder_41 : decode cX3_goOnOrder 41 = .ok (.getfield 74, 3) := by decide +kernel
theorem dX3_goOnOrder_44 : decode cX3_goOnOrder 44 = .ok (.iconst 1, 1) := by decide +kernel
theorem dX3_goOnOrder_45 : decode cX3_goOnOrder 45 = .ok (.isub, 1) := by decide +kernel
theorem dX3_goOnOrder_46 : decode cX3_goOnOrder 46 = .ok (.istore_n 2, 1) := by decide +kernel
theorem dX3_goOnOrder_47 : decode cX3_goOnOrder 47 = .ok (.aload_n 0, 1) := by decide +kernel
theorem dX3_goOnOrder_48 : decode cX3_goOnOrder 48 = .ok (.getfield 46, 3) := by decide +kernel
theorem dX3_goOnOrder_51 : decode cX3_goOnOrder 51 = .ok (.iload_n 2, 1) := by decide +kernel
theorem dX3_goOnOrder_52 : decode cX3_goOnOrder 52 = .ok (.iaload, 1) := by decide +kernel
theorem dX3_goOnOrder_53 : decode cX3_goOnOrder 53 = .ok (.aload_n 0, 1) := by decide +kernel
theorem dX3_goOnOrder_54 : decode cX3_goOnOrder 54 = .ok (.getfield 46, 3) := by decide +kernel
theorem dX3_goOnOrder_57 : decode cX3_goOnOrder 57 = .ok (.iload_n 1, 1) := by decide +kernel
theorem dX3_goOnOrder_58 : decode cX3_goOnOrder 58 = .ok (.iaload, 1) := by decide +kernel
theorem dX3_goOnOrder_59 : decode cX3_goOnOrder 59 = .ok (.if_icmp .ge 9, 3) := by decide +kernel
theorem dX3_goOnOrder_62 : decode cX3_goOnOrder 62 = .ok (.iinc 2 (-1), 3) := by decide +kernel
theorem dX3_goOnOrder_65 : decode cX3_goOnOrder 65 = .ok (.goto (-18), 3) := by decide +kernel
theorem dX3_goOnOrder_68 : decode cX3_goOnOrder 68 = .ok (.aload_n 0, 1) := by decide +kernel
theorem dX3_goOnOrder_69 : decode cX3_goOnOrder 69 = .ok (.iload_n 1, 1) := by decide +kernel
theorem dX3_goOnOrder_70 : decode cX3_goOnOrder 70 = .ok (.iload_n 2, 1) := by decide +kernel
theorem dX3_goOnOrder_71 : decode cX3_goOnOrder 71 = .ok (.invokevirtual 163, 3) := by decide +kernel
theorem dX3_goOnOrder_74 : decode cX3_goOnOrder 74 = .ok (.iload_n 1, 1) := by decide +kernel
theorem dX3_goOnOrder_75 : decode cX3_goOnOrder 75 = .ok (.iconst 1, 1) := by decide +kernel
theorem dX3_goOnOrder_76 : decode cX3_goOnOrder 76 = .ok (.iadd, 1) := by decide +kernel
theorem dX3_goOnOrder_77 : decode cX3_goOnOrder 77 = .ok (.istore_n 3, 1) := by decide +kernel
theorem dX3_goOnOrder_78 : decode cX3_goOnOrder 78 = .ok (.aload_n 0, 1) := by decide +kernel
theorem dX3_goOnOrder_79 : decode cX3_goOnOrder 79 = .ok (.getfield 74, 3) := by decide +kernel
theorem dX3_goOnOrder_82 : decode cX3_goOnOrder 82 = .ok (.iconst 1, 1) := by decide +kernel
theorem dX3_goOnOrder_83 : decode cX3_goOnOrder 83 = .ok (.isub, 1) := by decide +kernel
theorem dX3_goOnOrder_84 : decode cX3_goOnOrder 84 = .ok (.istore 4, 2) := by decide +kernel
theorem dX3_goOnOrder_86 : decode cX3_goOnOrder 86 = .ok (.iload_n 3, 1) := by decide +kernel
theorem dX3_goOnOrder_87 : decode cX3_goOnOrder 87 = .ok (.iload 4, 2) := by decide +kernel
theorem dX3_goOnOrder_89 : decode cX3_goOnOrder 89 = .ok (.if_icmp .ge 19, 3) := by decide +kernel
theorem dX3_goOnOrder_92 : decode cX3_goOnOrder 92 = .ok (.aload_n 0, 1) := by decide +kernel
theorem dX3_goOnOrder_93 : decode cX3_goOnOrder 93 = .ok (.iload_n 3, 1) := by decide +kernel
theorem dX3_goOnOrder_94 : decode cX3_goOnOrder 94 = .ok (.iload 4, 2) := by decide +kernel
theorem dX3_goOnOrder_96 : decode cX3_goOnOrder 96 = .ok (.invokevirtual 163, 3) := by decide +kernel
theorem dX3_goOnOrder_99 : decode cX3_goOnOrder 99 = .ok (.iinc 3 1, 3) := by decide +kernel
theorem dX3_goOnOrder_102 : decode cX3_goOnOrder 102 = .ok (.iinc 4 (-1), 3) := by decide +kernel
theorem dX3_goOnOrder_105 : decode cX3_goOnOrder 105 = .ok (.goto (-19), 3) := by decide +kernel
theorem dX3_goOnOrder_108 : decode cX3_goOnOrder 108 = .ok (.iconst 1, 1) := by decide +kernel
theorem dX3_goOnOrder_109 : decode cX3_goOnOrder 109 = .ok (.ireturn, 1) := by decide +kernel
theorem dX3_swap_0 : decode cX3_swap 0 = .ok (.aload_n 0, 1) := by decide +kernel
theorem dX3_swap_1 : decode cX3_swap 1 = .ok (.getfield 46, 3) := by decide +kernel
theorem dX3_swap_4 : decode cX3_swap 4 = .ok (.iload_n 1, 1) := by decide +kernel
theorem dX3_swap_5 : decode cX3_swap 5 = .ok (.iaload, 1) := by decide +kernel
theorem dX3_swap_6 : decode cX3_swap 6 = .ok (.istore_n 3, 1) := by decide +kernel
theorem dX3_swap_7 : decode cX3_swap 7 = .ok (.aload_n 0, 1) := by decide +kernel
theorem dX3_swap_8 : decode cX3_swap 8 = .ok (.getfield 46, 3) := by decide +kernel
theorem dX3_swap_11 : decode cX3_swap 11 = .ok (.iload_n 1, 1) := by decide +kernel
theorem dX3_swap_12 : decode cX3_swap 12 = .ok (.aload_n 0, 1) := by decide +kernel
theorem dX3_swap_13 : decode cX3_swap 13 = .ok (.getfield 46, 3) := by decide +kernel
theorem dX3_swap_16 : decode cX3_swap 16 = .ok (.iload_n 2, 1) := by decide +kernel
theorem dX3_swap_17 : decode cX3_swap 17 = .ok (.iaload, 1) := by decide +kernel
theorem dX3_swap_18 : decode cX3_swap 18 = .ok (.iastore, 1) := by decide +kernel
theorem dX3_swap_19 : decode cX3_swap 19 = .ok (.aload_n 0, 1) := by decide +kernel
theorem dX3_swap_20 : decode cX3_swap 20 = .ok (.getfield 46, 3) := by decide +kernel
theorem dX3_swap_23 : decode cX3_swap 23 = .ok (.iload_n 2, 1) := by decide +kernel
theorem dX3_swap_24 : decode cX3_swap 24 = .ok (.iload_n 3, 1) := by decide +kernel
theorem dX3_swap_25 : decode cX3_swap 25 = .ok (.iastore, 1) := by decide +kernel
theorem dX3_swap_26 : decode cX3_swap 26 = .ok (.return_, 1) := by decide +kernel
theorem dX3_findBest_0 : decode cX3_findBest 0 = .ok (.aload_n 0, 1) := by decide +kernel
theorem dX3_findBest_1 : decode cX3_findBest 1 = .ok (.invokevirtual 157, 3) := by decide +kernel
theorem dX3_findBest_4 : decode cX3_findBest 4 = .ok (.iconst (-1), 1) := by decide +kernel
theorem dX3_findBest_5 : decode cX3_findBest 5 = .ok (.istore_n 2, 1) := by decide +kernel
theorem dX3_findBest_6 : decode cX3_findBest 6 = .ok (.iconst 1, 1) := by decide +kernel
theorem dX3_findBest_7 : decode cX3_findBest 7 = .ok (.istore_n 3, 1) := by decide +kernel
theorem dX3_findBest_8 : decode cX3_findBest 8 = .ok (.iload_n 3, 1) := by decide +kernel
theorem dX3_findBest_9 : decode cX3_findBest 9 = .ok (.ifCond .eq 90, 3) := by decide +kernel
theorem dX3_findBest_12 : decode cX3_findBest 12 = .ok (.iconst 0, 1) := by decide +kernel
theorem dX3_findBest_13 : decode cX3_findBest 13 = .ok (.istore 4, 2) := by decide +kernel
theorem dX3_findBest_15 : decode cX3_findBest 15 = .ok (.iconst 1, 1) := by decide +kernel
theorem dX3_findBest_16 : decode cX3_findBest 16 = .ok (.istore 5, 2) := by decide +kernel
theorem dX3_findBest_18 : decode cX3_findBest 18 = .ok (.iload 5, 2) := by decide +kernel
theorem dX3_findBest_20 : decode cX3_findBest 20 = .ok (.aload_n 0, 1) := by decide +kernel
theorem dX3_findBest_21 : decode cX3_findBest 21 = .ok (.getfield 74, 3) := by decide +kernel
theorem dX3_findBest_24 : decode cX3_findBest 24 = .ok (.if_icmp .ge 21, 3) := by decide +kernel
theorem dX3_findBest_27 : decode cX3_findBest 27 = .ok (.iload 4, 2) := by decide +kernel
theorem dX3_findBest_29 : decode cX3_findBest 29 = .ok (.aload_n 0, 1) := by decide +kernel
theorem dX3_findBest_30 : decode cX3_findBest 30 = .ok (.iload_n 1, 1) := by decide +kernel
theorem dX3_findBest_31 : decode cX3_findBest 31 = .ok (.iload 5, 2) := by decide +kernel
theorem dX3_findBest_33 : decode cX3_findBest 33 = .ok (.invokevirtual 160, 3) := by decide +kernel
theorem dX3_findBest_36 : decode cX3_findBest 36 = .ok (.iadd, 1) := by decide +kernel
theorem dX3_findBest_37 : decode cX3_findBest 37 = .ok (.istore 4, 2) := by decide +kernel
theorem dX3_findBest_39 : decode cX3_findBest 39 = .ok (.iinc 5 1, 3) := by decide +kernel
theorem dX3_findBest_42 : decode cX3_findBest 42 = .ok (.goto (-24), 3) := by decide +kernel
theorem dX3_findBest_45 : decode cX3_findBest 45 = .ok (.iload_n 2, 1) := by decide +kernel
theorem dX3_findBest_46 : decode cX3_findBest 46 = .ok (.iconst (-1), 1) := by decide +kernel
theorem dX3_findBest_47 : decode cX3_findBest 47 = .ok (.if_icmp .eq 9, 3) := by decide +kernel
theorem dX3_findBest_50 : decode cX3_findBest 50 = .ok (.iload 4, 2) := by decide +kernel
theorem dX3_findBest_52 : decode cX3_findBest 52 = .ok (.iload_n 2, 1) := by decide +kernel
theorem dX3_findBest_53 : decode cX3_findBest 53 = .ok (.if_icmp .ge 38, 3) := by decide +kernel
theorem dX3_findBest_56 : decode cX3_findBest 56 = .ok (.iload 4, 2) := by decide +kernel
theorem dX3_findBest_58 : decode cX3_findBest 58 = .ok (.istore_n 2, 1) := by decide +kernel
theorem dX3_findBest_59 : decode cX3_findBest 59 = .ok (.iconst 0, 1) := by decide +kernel
theorem dX3_findBest_60 : decode cX3_findBest 60 = .ok (.istore 5, 2) := by decide +kernel
theorem dX3_findBest_62 : decode cX3_findBest 62 = .ok (.iload 5, 2) := by decide +kernel
theorem dX3_findBest_64 : decode cX3_findBest 64 = .ok (.aload_n 0, 1) := by decide +kernel
theorem dX3_findBest_65 : decode cX3_findBest 65 = .ok (.getfield 74, 3) := by decide +kernel
theorem dX3_findBest_68 : decode cX3_findBest 68 = .ok (.if_icmp .ge 23, 3) := by decide +kernel
theorem dX3_findBest_71 : decode cX3_findBest 71 = .ok (.aload_n 0, 1) := by decide +kernel
theorem dX3_findBest_72 : decode cX3_findBest 72 = .ok (.getfield 49, 3) := by decide +kernel
theorem dX3_findBest_75 : decode cX3_findBest 75 = .ok (.iload 5, 2) := by decide +kernel
theorem dX3_findBest_77 : decode cX3_findBest 77 = .ok (.aload_n 0, 1) := by decide +kernel
theorem dX3_findBest_78 : decode cX3_findBest 78 = .ok (.getfield 46, 3) := by decide +kernel
theorem dX3_findBest_81 : decode cX3_findBest 81 = .ok (.iload 5, 2) := by decide +kernel
theorem dX3_findBest_83 : decode cX3_findBest 83 = .ok (.iaload, 1) := by decide +kernel
theorem dX3_findBest_84 : decode cX3_findBest 84 = .ok (.iastore, 1) := by decide +kernel
theorem dX3_findBest_85 : decode cX3_findBest 85 = .ok (.iinc 5 1, 3) := by decide +kernel
theorem dX3_findBest_88 : decode cX3_findBest 88 = .ok (.goto (-26), 3) := by decide +kernel
theorem dX3_findBest_91 : decode cX3_findBest 91 = .ok (.aload_n 0, 1) := by decide +kernel
theorem dX3_findBest_92 : decode cX3_findBest 92 = .ok (.invokevirtual 166, 3) := by decide +kernel
theorem dX3_findBest_95 : decode cX3_findBest 95 = .ok (.istore_n 3, 1) := by decide +kernel
theorem dX3_findBest_96 : decode cX3_findBest 96 = .ok (.goto (-88), 3) := by decide +kernel
theorem dX3_findBest_99 : decode cX3_findBest 99 = .ok (.iload_n 2, 1) := by decide +kernel
theorem dX3_findBest_100 : decode cX3_findBest 100 = .ok (.ireturn, 1) := by decide +kernel
theorem dX3_best_0 : decode cX3_best 0 = .ok (.aload_n 0, 1) := by decide +kernel
theorem dX3_best_1 : decode cX3_best 1 = .ok (.iload_n 1, 1) := by decide +kernel
theorem dX3_best_2 : decode cX3_best 2 = .ok (.invokevirtual 154, 3) := by decide +kernel
theorem dX3_best_5 : decode cX3_best 5 = .ok (.istore_n 2, 1) := by decide +kernel
theorem dX3_best_6 : decode cX3_best 6 = .ok (.iload_n 2, 1) := by decide +kernel
theorem dX3_best_7 : decode cX3_best 7 = .ok (.ifCond .eq 7, 3) := by decide +kernel
theorem dX3_best_10 : decode cX3_best 10 = .ok (.iload_n 2, 1) := by decide +kernel
theorem dX3_best_11 : decode cX3_best 11 = .ok (.goto 8, 3) := by decide +kernel
theorem dX3_best_14 : decode cX3_best 14 = .ok (.aload_n 0, 1) := by decide +kernel
theorem dX3_best_15 : decode cX3_best 15 = .ok (.iload_n 1, 1) := by decide +kernel
theorem dX3_best_16 : decode cX3_best 16 = .ok (.invokevirtual 169, 3) := by decide +kernel
theorem dX3_best_19 : decode cX3_best 19 = .ok (.ireturn, 1) := by decide +kernel
theorem dX3_placed_0 : decode cX3_placed 0 = .ok (.aload_n 0, 1) := by decide +kernel
theorem dX3_placed_1 : decode cX3_placed 1 = .ok (.iload_n 1, 1) := by decide +kernel
theorem dX3_placed_2 : decode cX3_placed 2 = .ok (.invokevirtual 154, 3) := by decide +kernel
theorem dX3_placed_5 : decode cX3_placed 5 = .ok (.istore_n 3, 1) := by decide +kernel
theorem dX3_placed_6 : decode cX3_placed 6 = .ok (.iload_n 3, 1) := by decide +kernel
theorem dX3_placed_7 : decode cX3_placed 7 = .ok (.ifCond .eq 5, 3) := by decide +kernel
theorem dX3_placed_10 : decode cX3_placed 10 = .ok (.iload_n 3, 1) := by decide +kernel
theorem dX3_placed_11 : decode cX3_placed 11 = .ok (.ireturn, 1) := by decide +kernel
theorem dX3_placed_12 : decode cX3_placed 12 = .ok (.aload_n 0, 1) := by decide +kernel
theorem dX3_placed_13 : decode cX3_placed 13 = .ok (.iload_n 1, 1) := by decide +kernel
theorem dX3_placed_14 : decode cX3_placed 14 = .ok (.invokevirtual 169, 3) := by decide +kernel
theorem dX3_placed_17 : decode cX3_placed 17 = .ok (.istore 4, 2) := by decide +kernel
theorem dX3_placed_19 : decode cX3_placed 19 = .ok (.iload 4, 2) := by decide +kernel
theorem dX3_placed_21 : decode cX3_placed 21 = .ok (.ifCond .lt 28, 3) := by decide +kernel
theorem dX3_placed_24 : decode cX3_placed 24 = .ok (.iload_n 2, 1) := by decide +kernel
theorem dX3_placed_25 : decode cX3_placed 25 = .ok (.i2l, 1) := by decide +kernel
theorem dX3_placed_26 : decode cX3_placed 26 = .ok (.lconst 0, 1) := by decide +kernel
theorem dX3_placed_27 : decode cX3_placed 27 = .ok (.aload_n 0, 1) := by decide +kernel
theorem dX3_placed_28 : decode cX3_placed 28 = .ok (.getfield 74, 3) := by decide +kernel
theorem dX3_placed_31 : decode cX3_placed 31 = .ok (.iconst 1, 1) := by decide +kernel
theorem dX3_placed_32 : decode cX3_placed 32 = .ok (.isub, 1) := by decide +kernel
theorem dX3_placed_33 : decode cX3_placed 33 = .ok (.i2l, 1) := by decide +kernel
theorem dX3_placed_34 : decode cX3_placed 34 = .ok (.invokestatic 77, 3) := by decide +kernel
theorem dX3_placed_37 : decode cX3_placed 37 = .ok (.ifCond .eq 12, 3) := by decide +kernel
theorem dX3_placed_40 : decode cX3_placed 40 = .ok (.aload_n 0, 1) := by decide +kernel
theorem dX3_placed_41 : decode cX3_placed 41 = .ok (.getfield 49, 3) := by decide +kernel
theorem dX3_placed_44 : decode cX3_placed 44 = .ok (.iload_n 2, 1) := by decide +kernel
theorem dX3_placed_45 : decode cX3_placed 45 = .ok (.iaload, 1) := by decide +kernel
theorem dX3_placed_46 : decode cX3_placed 46 = .ok (.goto 4, 3) := by decide +kernel
theorem dX3_placed_49 : decode cX3_placed 49 = .ok (.iconst (-1), 1) := by decide +kernel
theorem dX3_placed_50 : decode cX3_placed 50 = .ok (.ireturn, 1) := by decide +kernel
theorem dX3_layAside_0 : decode cX3_layAside 0 = .ok (.iconst 0, 1) := by decide +kernel
theorem dX3_layAside_1 : decode cX3_layAside 1 = .ok (.istore_n 1, 1) := by decide +kernel
theorem dX3_layAside_2 : decode cX3_layAside 2 = .ok (.iload_n 1, 1) := by decide +kernel
theorem dX3_layAside_3 : decode cX3_layAside 3 = .ok (.bipush 6, 2) := by decide +kernel
theorem dX3_layAside_5 : decode cX3_layAside 5 = .ok (.if_icmp .ge 126, 3) := by decide +kernel
theorem dX3_layAside_8 : decode cX3_layAside 8 = .ok (.aload_n 0, 1) := by decide +kernel
theorem dX3_layAside_9 : decode cX3_layAside 9 = .ok (.getfield 52, 3) := by decide +kernel
theorem dX3_layAside_12 : decode cX3_layAside 12 = .ok (.iload_n 1, 1) := by decide +kernel
theorem dX3_layAside_13 : decode cX3_layAside 13 = .ok (.aload_n 0, 1) := by decide +kernel
theorem dX3_layAside_14 : decode cX3_layAside 14 = .ok (.getfield 7, 3) := by decide +kernel
theorem dX3_layAside_17 : decode cX3_layAside 17 = .ok (.iload_n 1, 1) := by decide +kernel
theorem dX3_layAside_18 : decode cX3_layAside 18 = .ok (.iaload, 1) := by decide +kernel
theorem dX3_layAside_19 : decode cX3_layAside 19 = .ok (.iastore, 1) := by decide +kernel
theorem dX3_layAside_20 : decode cX3_layAside 20 = .ok (.aload_n 0, 1) := by decide +kernel
theorem dX3_layAside_21 : decode cX3_layAside 21 = .ok (.getfield 52, 3) := by decide +kernel
theorem dX3_layAside_24 : decode cX3_layAside 24 = .ok (.bipush 6, 2) := by decide +kernel
theorem dX3_layAside_26 : decode cX3_layAside 26 = .ok (.iload_n 1, 1) := by decide +kernel
theorem dX3_layAside_27 : decode cX3_layAside 27 = .ok (.iadd, 1) := by decide +kernel
theorem dX3_layAside_28 : decode cX3_layAside 28 = .ok (.aload_n 0, 1) := by decide +kernel
theorem dX3_layAside_29 : decode cX3_layAside 29 = .ok (.getfield 13, 3) := by decide +kernel
theorem dX3_layAside_32 : decode cX3_layAside 32 = .ok (.iload_n 1, 1) := by decide +kernel
theorem dX3_layAside_33 : decode cX3_layAside 33 = .ok (.iaload, 1) := by decide +kernel
theorem dX3_layAside_34 : decode cX3_layAside 34 = .ok (.iastore, 1) := by decide +kernel
theorem dX3_layAside_35 : decode cX3_layAside 35 = .ok (.aload_n 0, 1) := by decide +kernel
theorem dX3_layAside_36 : decode cX3_layAside 36 = .ok (.getfield 52, 3) := by decide +kernel
theorem dX3_layAside_39 : decode cX3_layAside 39 = .ok (.bipush 12, 2) := by decide +kernel
theorem dX3_layAside_41 : decode cX3_layAside 41 = .ok (.iload_n 1, 1) := by decide +kernel
theorem dX3_layAside_42 : decode cX3_layAside 42 = .ok (.iadd, 1) := by decide +kernel
theorem dX3_layAside_43 : decode cX3_layAside 43 = .ok (.aload_n 0, 1) := by decide +kernel
theorem dX3_layAside_44 : decode cX3_layAside 44 = .ok (.getfield 16, 3) := by decide +kernel
theorem dX3_layAside_47 : decode cX3_layAside 47 = .ok (.iload_n 1, 1) := by decide +kernel
theorem dX3_layAside_48 : decode cX3_layAside 48 = .ok (.iaload, 1) := by decide +kernel
theorem dX3_layAside_49 : decode cX3_layAside 49 = .ok (.iastore, 1) := by decide +kernel
theorem dX3_layAside_50 : decode cX3_layAside 50 = .ok (.aload_n 0, 1) := by decide +kernel
theorem dX3_layAside_51 : decode cX3_layAside 51 = .ok (.getfield 52, 3) := by decide +kernel
theorem dX3_layAside_54 : decode cX3_layAside 54 = .ok (.bipush 18, 2) := by decide +kernel
theorem dX3_layAside_56 : decode cX3_layAside 56 = .ok (.iload_n 1, 1) := by decide +kernel
theorem dX3_layAside_57 : decode cX3_layAside 57 = .ok (.iadd, 1) := by decide +kernel
theorem dX3_layAside_58 : decode cX3_layAside 58 = .ok (.aload_n 0, 1) := by decide +kernel
theorem dX3_layAside_59 : decode cX3_layAside 59 = .ok (.getfield 19, 3) := by decide +kernel
theorem dX3_layAside_62 : decode cX3_layAside 62 = .ok (.iload_n 1, 1) := by decide +kernel
theorem dX3_layAside_63 : decode cX3_layAside 63 = .ok (.iaload, 1) := by decide +kernel
theorem dX3_layAside_64 : decode cX3_layAside 64 = .ok (.iastore, 1) := by decide +kernel
theorem dX3_layAside_65 : decode cX3_layAside 65 = .ok (.aload_n 0, 1) := by decide +kernel
theorem dX3_layAside_66 : decode cX3_layAside 66 = .ok (.getfield 52, 3) := by decide +kernel
theorem dX3_layAside_69 : decode cX3_layAside 69 = .ok (.bipush 24, 2) := by decide +kernel
theorem dX3_layAside_71 : decode cX3_layAside 71 = .ok (.iload_n 1, 1) := by decide +kernel
theorem dX3_layAside_72 : decode cX3_layAside 72 = .ok (.iadd, 1) := by decide +kernel
theorem dX3_layAside_73 : decode cX3_layAside 73 = .ok (.aload_n 0, 1) := by decide +kernel
theorem dX3_layAside_74 : decode cX3_layAside 74 = .ok (.getfield 22, 3) := by decide +kernel
theorem dX3_layAside_77 : decode cX3_layAside 77 = .ok (.iload_n 1, 1) := by decide +kernel
theorem dX3_layAside_78 : decode cX3_layAside 78 = .ok (.iaload, 1) := by decide +kernel
theorem dX3_layAside_79 : decode cX3_layAside 79 = .ok (.iastore, 1) := by decide +kernel
theorem dX3_layAside_80 : decode cX3_layAside 80 = .ok (.aload_n 0, 1) := by decide +kernel
theorem dX3_layAside_81 : decode cX3_layAside 81 = .ok (.getfield 52, 3) := by decide +kernel
theorem dX3_layAside_84 : decode cX3_layAside 84 = .ok (.bipush 30, 2) := by decide +kernel
theorem dX3_layAside_86 : decode cX3_layAside 86 = .ok (.iload_n 1, 1) := by decide +kernel
theorem dX3_layAside_87 : decode cX3_layAside 87 = .ok (.iadd, 1) := by decide +kernel
theorem dX3_layAside_88 : decode cX3_layAside 88 = .ok (.aload_n 0, 1) := by decide +kernel
theorem dX3_layAside_89 : decode cX3_layAside 89 = .ok (.getfield 25, 3) := by decide +kernel
theorem dX3_layAside_92 : decode cX3_layAside 92 = .ok (.iload_n 1, 1) := by decide +kernel
theorem dX3_layAside_93 : decode cX3_layAside 93 = .ok (.iaload, 1) := by decide +kernel
theorem dX3_layAside_94 : decode cX3_layAside 94 = .ok (.iastore, 1) := by decide +kernel
theorem dX3_layAside_95 : decode cX3_layAside 95 = .ok (.aload_n 0, 1) := by decide +kernel
theorem dX3_layAside_96 : decode cX3_layAside 96 = .ok (.getfield 52, 3) := by decide +kernel
theorem dX3_layAside_99 : decode cX3_layAside 99 = .ok (.bipush 36, 2) := by decide +kernel
theorem dX3_layAside_101 : decode cX3_layAside 101 = .ok (.iload_n 1, 1) := by decide +kernel
theorem dX3_layAside_102 : decode cX3_layAside 102 = .ok (.iadd, 1) := by decide +kernel
theorem dX3_layAside_103 : decode cX3_layAside 103 = .ok (.aload_n 0, 1) := by decide +kernel
theorem dX3_layAside_104 : decode cX3_layAside 104 = .ok (.getfield 28, 3) := by decide +kernel
theorem dX3_layAside_107 : decode cX3_layAside 107 = .ok (.iload_n 1, 1) := by decide +kernel
theorem dX3_layAside_108 : decode cX3_layAside 108 = .ok (.iaload, 1) := by decide +kernel
theorem dX3_layAside_109 : decode cX3_layAside 109 = .ok (.iastore, 1) := by decide +kernel
theorem dX3_layAside_110 : decode cX3_layAside 110 = .ok (.aload_n 0, 1) := by decide +kernel
theorem dX3_layAside_111 : decode cX3_layAside 111 = .ok (.getfield 52, 3) := by decide +kernel
theorem dX3_layAside_114 : decode cX3_layAside 114 = .ok (.bipush 42, 2) := by decide +kernel
theorem dX3_layAside_116 : decode cX3_layAside 116 = .ok (.iload_n 1, 1) := by decide +kernel
theorem dX3_layAside_117 : decode cX3_layAside 117 = .ok (.iadd, 1) := by decide +kernel
theorem dX3_layAside_118 : decode cX3_layAside 118 = .ok (.aload_n 0, 1) := by decide +kernel
theorem dX3_layAside_119 : decode cX3_layAside 119 = .ok (.getfield 31, 3) := by decide +kernel
theorem dX3_layAside_122 : decode cX3_layAside 122 = .ok (.iload_n 1, 1) := by decide +kernel
theorem dX3_layAside_123 : decode cX3_layAside 123 = .ok (.iaload, 1) := by decide +kernel
theorem dX3_layAside_124 : decode cX3_layAside 124 = .ok (.iastore, 1) := by decide +kernel
theorem dX3_layAside_125 : decode cX3_layAside 125 = .ok (.iinc 1 1, 3) := by decide +kernel
theorem dX3_layAside_128 : decode cX3_layAside 128 = .ok (.goto (-126), 3) := by decide +kernel
theorem dX3_layAside_131 : decode cX3_layAside 131 = .ok (.return_, 1) := by decide +kernel
theorem dX3_fetch_0 : decode cX3_fetch 0 = .ok (.aload_n 0, 1) := by decide +kernel
theorem dX3_fetch_1 : decode cX3_fetch 1 = .ok (.getfield 7, 3) := by decide +kernel
theorem dX3_fetch_4 : decode cX3_fetch 4 = .ok (.iload_n 1, 1) := by decide +kernel
theorem dX3_fetch_5 : decode cX3_fetch 5 = .ok (.aload_n 0, 1) := by decide +kernel
theorem dX3_fetch_6 : decode cX3_fetch 6 = .ok (.getfield 52, 3) := by decide +kernel
theorem dX3_fetch_9 : decode cX3_fetch 9 = .ok (.iload_n 2, 1) := by decide +kernel
theorem dX3_fetch_10 : decode cX3_fetch 10 = .ok (.iaload, 1) := by decide +kernel
theorem dX3_fetch_11 : decode cX3_fetch 11 = .ok (.iastore, 1) := by decide +kernel
theorem dX3_fetch_12 : decode cX3_fetch 12 = .ok (.aload_n 0, 1) := by decide +kernel
theorem dX3_fetch_13 : decode cX3_fetch 13 = .ok (.getfield 13, 3) := by decide +kernel
theorem dX3_fetch_16 : decode cX3_fetch 16 = .ok (.iload_n 1, 1) := by decide +kernel
theorem dX3_fetch_17 : decode cX3_fetch 17 = .ok (.aload_n 0, 1) := by decide +kernel
theorem dX3_fetch_18 : decode cX3_fetch 18 = .ok (.getfield 52, 3) := by decide +kernel
theorem dX3_fetch_21 : decode cX3_fetch 21 = .ok (.bipush 6, 2) := by decide +kernel
theorem dX3_fetch_23 : decode cX3_fetch 23 = .ok (.iload_n 2, 1) := by decide +kernel
theorem dX3_fetch_24 : decode cX3_fetch 24 = .ok (.iadd, 1) := by decide +kernel
theorem dX3_fetch_25 : decode cX3_fetch 25 = .ok (.iaload, 1) := by decide +kernel
theorem dX3_fetch_26 : decode cX3_fetch 26 = .ok (.iastore, 1) := by decide +kernel
theorem dX3_fetch_27 : decode cX3_fetch 27 = .ok (.aload_n 0, 1) := by decide +kernel
theorem dX3_fetch_28 : decode cX3_fetch 28 = .ok (.getfield 16, 3) := by decide +kernel
theorem dX3_fetch_31 : decode cX3_fetch 31 = .ok (.iload_n 1, 1) := by decide +kernel
theorem dX3_fetch_32 : decode cX3_fetch 32 = .ok (.aload_n 0, 1) := by decide +kernel
theorem dX3_fetch_33 : decode cX3_fetch 33 = .ok (.getfield 52, 3) := by decide +kernel
theorem dX3_fetch_36 : decode cX3_fetch 36 = .ok (.bipush 12, 2) := by decide +kernel
theorem dX3_fetch_38 : decode cX3_fetch 38 = .ok (.iload_n 2, 1) := by decide +kernel
theorem dX3_fetch_39 : decode cX3_fetch 39 = .ok (.iadd, 1) := by decide +kernel
theorem dX3_fetch_40 : decode cX3_fetch 40 = .ok (.iaload, 1) := by decide +kernel
theorem dX3_fetch_41 : decode cX3_fetch 41 = .ok (.iastore, 1) := by decide +kernel
theorem dX3_fetch_42 : decode cX3_fetch 42 = .ok (.aload_n 0, 1) := by decide +kernel
theorem dX3_fetch_43 : decode cX3_fetch 43 = .ok (.getfield 19, 3) := by decide +kernel
theorem dX3_fetch_46 : decode cX3_fetch 46 = .ok (.iload_n 1, 1) := by decide +kernel
theorem dX3_fetch_47 : decode cX3_fetch 47 = .ok (.aload_n 0, 1) := by decide +kernel
theorem dX3_fetch_48 : decode cX3_fetch 48 = .ok (.getfield 52, 3) := by decide +kernel
theorem dX3_fetch_51 : decode cX3_fetch 51 = .ok (.bipush 18, 2) := by decide +kernel
theorem dX3_fetch_53 : decode cX3_fetch 53 = .ok (.iload_n 2, 1) := by decide +kernel
theorem dX3_fetch_54 : decode cX3_fetch 54 = .ok (.iadd, 1) := by decide +kernel
theorem dX3_fetch_55 : decode cX3_fetch 55 = .ok (.iaload, 1) := by decide +kernel
theorem dX3_fetch_56 : decode cX3_fetch 56 = .ok (.iastore, 1) := by decide +kernel
theorem dX3_fetch_57 : decode cX3_fetch 57 = .ok (.aload_n 0, 1) := by decide +kernel
theorem dX3_fetch_58 : decode cX3_fetch 58 = .ok (.getfield 22, 3) := by decide +kernel
theorem dX3_fetch_61 : decode cX3_fetch 61 = .ok (.iload_n 1, 1) := by decide +kernel
theorem dX3_fetch_62 : decode cX3_fetch 62 = .ok (.aload_n 0, 1) := by decide +kernel
theorem dX3_fetch_63 : decode cX3_fetch 63 = .ok (.getfield 52, 3) := by decide +kernel
theorem dX3_fetch_66 : decode cX3_fetch 66 = .ok (.bipush 24, 2) := by decide +kernel
theorem dX3_fetch_68 : decode cX3_fetch 68 = .ok (.iload_n 2, 1) := by decide +kernel
theorem dX3_fetch_69 : decode cX3_fetch 69 = .ok (.iadd, 1) := by decide +kernel
theorem dX3_fetch_70 : decode cX3_fetch 70 = .ok (.iaload, 1) := by decide +kernel
theorem dX3_fetch_71 : decode cX3_fetch 71 = .ok (.iastore, 1) := by decide +kernel
theorem dX3_fetch_72 : decode cX3_fetch 72 = .ok (.aload_n 0, 1) := by decide +kernel
theorem dX3_fetch_73 : decode cX3_fetch 73 = .ok (.getfield 25, 3) := by decide +kernel
theorem dX3_fetch_76 : decode cX3_fetch 76 = .ok (.iload_n 1, 1) := by decide +kernel
theorem dX3_fetch_77 : decode cX3_fetch 77 = .ok (.aload_n 0, 1) := by decide +kernel
theorem dX3_fetch_78 : decode cX3_fetch 78 = .ok (.getfield 52, 3) := by decide +kernel
theorem dX3_fetch_81 : decode cX3_fetch 81 = .ok (.bipush 30, 2) := by decide +kernel
theorem dX3_fetch_83 : decode cX3_fetch 83 = .ok (.iload_n 2, 1) := by decide +kernel
theorem dX3_fetch_84 : decode cX3_fetch 84 = .ok (.iadd, 1) := by decide +kernel
theorem dX3_fetch_85 : decode cX3_fetch 85 = .ok (.iaload, 1) := by decide +kernel
theorem dX3_fetch_86 : decode cX3_fetch 86 = .ok (.iastore, 1) := by decide +kernel
theorem dX3_fetch_87 : decode cX3_fetch 87 = .ok (.aload_n 0, 1) := by decide +kernel
theorem dX3_fetch_88 : decode cX3_fetch 88 = .ok (.getfield 28, 3) := by decide +kernel
theorem dX3_fetch_91 : decode cX3_fetch 91 = .ok (.iload_n 1, 1) := by decide +kernel
theorem dX3_fetch_92 : decode cX3_fetch 92 = .ok (.aload_n 0, 1) := by decide +kernel
theorem dX3_fetch_93 : decode cX3_fetch 93 = .ok (.getfield 52, 3) := by decide +kernel
theorem dX3_fetch_96 : decode cX3_fetch 96 = .ok (.bipush 36, 2) := by decide +kernel
theorem dX3_fetch_98 : decode cX3_fetch 98 = .ok (.iload_n 2, 1) := by decide +kernel
theorem dX3_fetch_99 : decode cX3_fetch 99 = .ok (.iadd, 1) := by decide +kernel
theorem dX3_fetch_100 : decode cX3_fetch 100 = .ok (.iaload, 1) := by decide +kernel
theorem dX3_fetch_101 : decode cX3_fetch 101 = .ok (.iastore, 1) := by decide +kernel
theorem dX3_fetch_102 : decode cX3_fetch 102 = .ok (.aload_n 0, 1) := by decide +kernel
theorem dX3_fetch_103 : decode cX3_fetch 103 = .ok (.getfield 31, 3) := by decide +kernel
theorem dX3_fetch_106 : decode cX3_fetch 106 = .ok (.iload_n 1, 1) := by decide +kernel
theorem dX3_fetch_107 : decode cX3_fetch 107 = .ok (.aload_n 0, 1) := by decide +kernel
theorem dX3_fetch_108 : decode cX3_fetch 108 = .ok (.getfield 52, 3) := by decide +kernel
theorem dX3_fetch_111 : decode cX3_fetch 111 = .ok (.bipush 42, 2) := by decide +kernel
theorem dX3_fetch_113 : decode cX3_fetch 113 = .ok (.iload_n 2, 1) := by decide +kernel
theorem dX3_fetch_114 : decode cX3_fetch 114 = .ok (.iadd, 1) := by decide +kernel
theorem dX3_fetch_115 : decode cX3_fetch 115 = .ok (.iaload, 1) := by decide +kernel
theorem dX3_fetch_116 : decode cX3_fetch 116 = .ok (.iastore, 1) := by decide +kernel
theorem dX3_fetch_117 : decode cX3_fetch 117 = .ok (.return_, 1) := by decide +kernel
theorem dX3_arrange_0 : decode cX3_arrange 0 = .ok (.aload_n 0, 1) := by decide +kernel
theorem dX3_arrange_1 : decode cX3_arrange 1 = .ok (.iload_n 1, 1) := by decide +kernel
theorem dX3_arrange_2 : decode cX3_arrange 2 = .ok (.invokevirtual 154, 3) := by decide +kernel
theorem dX3_arrange_5 : decode cX3_arrange 5 = .ok (.istore_n 2, 1) := by decide +kernel
theorem dX3_arrange_6 : decode cX3_arrange 6 = .ok (.iload_n 2, 1) := by decide +kernel
theorem dX3_arrange_7 : decode cX3_arrange 7 = .ok (.ifCond .eq 5, 3) := by decide +kernel
theorem dX3_arrange_10 : decode cX3_arrange 10 = .ok (.iload_n 2, 1) := by decide +kernel
theorem dX3_arrange_11 : decode cX3_arrange 11 = .ok (.ireturn, 1) := by decide +kernel
theorem dX3_arrange_12 : decode cX3_arrange 12 = .ok (.aload_n 0, 1) := by decide +kernel
theorem dX3_arrange_13 : decode cX3_arrange 13 = .ok (.iload_n 1, 1) := by decide +kernel
theorem dX3_arrange_14 : decode cX3_arrange 14 = .ok (.invokevirtual 169, 3) := by decide +kernel
theorem dX3_arrange_17 : decode cX3_arrange 17 = .ok (.istore_n 3, 1) := by decide +kernel
theorem dX3_arrange_18 : decode cX3_arrange 18 = .ok (.aload_n 0, 1) := by decide +kernel
theorem dX3_arrange_19 : decode cX3_arrange 19 = .ok (.invokevirtual 172, 3) := by decide +kernel
theorem dX3_arrange_22 : decode cX3_arrange 22 = .ok (.iload_n 3, 1) := by decide +kernel
theorem dX3_arrange_23 : decode cX3_arrange 23 = .ok (.ifCond .ge 7, 3) := by decide +kernel
theorem dX3_arrange_26 : decode cX3_arrange 26 = .ok (.iconst 1, 1) := by decide +kernel
theorem dX3_arrange_27 : decode cX3_arrange 27 = .ok (.goto 4, 3) := by decide +kernel
theorem dX3_arrange_30 : decode cX3_arrange 30 = .ok (.iconst 0, 1) := by decide +kernel
theorem dX3_arrange_31 : decode cX3_arrange 31 = .ok (.istore 4, 2) := by decide +kernel
theorem dX3_arrange_33 : decode cX3_arrange 33 = .ok (.iconst 0, 1) := by decide +kernel
theorem dX3_arrange_34 : decode cX3_arrange 34 = .ok (.istore 5, 2) := by decide +kernel
theorem dX3_arrange_36 : decode cX3_arrange 36 = .ok (.iload 5, 2) := by decide +kernel
theorem dX3_arrange_38 : decode cX3_arrange 38 = .ok (.aload_n 0, 1) := by decide +kernel
theorem dX3_arrange_39 : decode cX3_arrange 39 = .ok (.getfield 74, 3) := by decide +kernel
theorem dX3_arrange_42 : decode cX3_arrange 42 = .ok (.if_icmp .ge 44, 3) := by decide +kernel
theorem dX3_arrange_45 : decode cX3_arrange 45 = .ok (.aload_n 0, 1) := by decide +kernel
theorem dX3_arrange_46 : decode cX3_arrange 46 = .ok (.iload 5, 2) := by decide +kernel
theorem dX3_arrange_48 : decode cX3_arrange 48 = .ok (.aload_n 0, 1) := by decide +kernel
theorem dX3_arrange_49 : decode cX3_arrange 49 = .ok (.getfield 49, 3) := by decide +kernel
theorem dX3_arrange_52 : decode cX3_arrange 52 = .ok (.iload 5, 2) := by decide +kernel
theorem dX3_arrange_54 : decode cX3_arrange 54 = .ok (.iaload, 1) := by decide +kernel
theorem dX3_arrange_55 : decode cX3_arrange 55 = .ok (.invokevirtual 175, 3) := by decide +kernel
theorem dX3_arrange_58 : decode cX3_arrange 58 = .ok (.iload 4, 2) := by decide +kernel
theorem dX3_arrange_60 : decode cX3_arrange 60 = .ok (.aload_n 0, 1) := by decide +kernel
theorem dX3_arrange_61 : decode cX3_arrange 61 = .ok (.getfield 49, 3) := by decide +kernel
theorem dX3_arrange_64 : decode cX3_arrange 64 = .ok (.iload 5, 2) := by decide +kernel
theorem dX3_arrange_66 : decode cX3_arrange 66 = .ok (.iaload, 1) := by decide +kernel
theorem dX3_arrange_67 : decode cX3_arrange 67 = .ok (.iload 5, 2) := by decide +kernel
theorem dX3_arrange_69 : decode cX3_arrange 69 = .ok (.if_icmp .ne 7, 3) := by decide +kernel
theorem dX3_arrange_72 : decode cX3_arrange 72 = .ok (.iconst 0, 1) := by decide +kernel
theorem dX3_arrange_73 : decode cX3_arrange 73 = .ok (.goto 4, 3) := by decide +kernel
theorem dX3_arrange_76 : decode cX3_arrange 76 = .ok (.iconst 1, 1) := by decide +kernel
theorem dX3_arrange_77 : decode cX3_arrange 77 = .ok (.iadd, 1) := by decide +kernel
theorem dX3_arrange_78 : decode cX3_arrange 78 = .ok (.istore 4, 2) := by decide +kernel
theorem dX3_arrange_80 : decode cX3_arrange 80 = .ok (.iinc 5 1, 3) := by decide +kernel
theorem dX3_arrange_83 : decode cX3_arrange 83 = .ok (.goto (-47), 3) := by decide +kernel
theorem dX3_arrange_86 : decode cX3_arrange 86 = .ok (.iload 4, 2) := by decide +kernel
theorem dX3_arrange_88 : decode cX3_arrange 88 = .ok (.ireturn, 1) := by decide +kernel
theorem dX3_read_0 : decode cX3_read 0 = .ok (.aload_n 0, 1) := by decide +kernel
theorem dX3_read_1 : decode cX3_read 1 = .ok (.iload_n 1, 1) := by decide +kernel
theorem dX3_read_2 : decode cX3_read 2 = .ok (.invokevirtual 92, 3) := by decide +kernel
theorem dX3_read_5 : decode cX3_read 5 = .ok (.ifCond .ne 6, 3) := by decide +kernel
theorem dX3_read_8 : decode cX3_read 8 = .ok (.bipush (-101), 2) := by decide +kernel
theorem dX3_read_10 : decode cX3_read 10 = .ok (.ireturn, 1) := by decide +kernel
theorem dX3_read_11 : decode cX3_read 11 = .ok (.iload_n 2, 1) := by decide +kernel
theorem dX3_read_12 : decode cX3_read 12 = .ok (.i2l, 1) := by decide +kernel
theorem dX3_read_13 : decode cX3_read 13 = .ok (.lconst 1, 1) := by decide +kernel
theorem dX3_read_14 : decode cX3_read 14 = .ok (.ldc2_w 106, 3) := by decide +kernel
theorem dX3_read_17 : decode cX3_read 17 = .ok (.invokestatic 77, 3) := by decide +kernel
theorem dX3_read_20 : decode cX3_read 20 = .ok (.ifCond .eq 29, 3) := by decide +kernel
theorem dX3_read_23 : decode cX3_read 23 = .ok (.iload_n 3, 1) := by decide +kernel
theorem dX3_read_24 : decode cX3_read 24 = .ok (.i2l, 1) := by decide +kernel
theorem dX3_read_25 : decode cX3_read 25 = .ok (.lconst 0, 1) := by decide +kernel
theorem dX3_read_26 : decode cX3_read 26 = .ok (.ldc2_w 81, 3) := by decide +kernel
theorem dX3_read_29 : decode cX3_read 29 = .ok (.invokestatic 77, 3) := by decide +kernel
theorem dX3_read_32 : decode cX3_read 32 = .ok (.ifCond .eq 17, 3) := by decide +kernel
theorem dX3_read_35 : decode cX3_read 35 = .ok (.iload 4, 2) := by decide +kernel
theorem dX3_read_37 : decode cX3_read 37 = .ok (.i2l, 1) := by decide +kernel
theorem dX3_read_38 : decode cX3_read 38 = .ok (.iload_n 3, 1) := by decide +kernel
theorem dX3_read_39 : decode cX3_read 39 = .ok (.i2l, 1) := by decide +kernel
theorem dX3_read_40 : decode cX3_read 40 = .ok (.ldc2_w 81, 3) := by decide +kernel
theorem dX3_read_43 : decode cX3_read 43 = .ok (.invokestatic 77, 3) := by decide +kernel
theorem dX3_read_46 : decode cX3_read 46 = .ok (.ifCond .ne 6, 3) := by decide +kernel
theorem dX3_read_49 : decode cX3_read 49 = .ok (.bipush (-102), 2) := by decide +kernel
theorem dX3_read_51 : decode cX3_read 51 = .ok (.ireturn, 1) := by decide +kernel
theorem dX3_read_52 : decode cX3_read 52 = .ok (.aload_n 0, 1) := by decide +kernel
theorem dX3_read_53 : decode cX3_read 53 = .ok (.getfield 87, 3) := by decide +kernel
theorem dX3_read_56 : decode cX3_read 56 = .ok (.bipush 12, 2) := by decide +kernel
theorem dX3_read_58 : decode cX3_read 58 = .ok (.if_icmp .ne 6, 3) := by decide +kernel
theorem dX3_read_61 : decode cX3_read 61 = .ok (.bipush (-104), 2) := by decide +kernel
theorem dX3_read_63 : decode cX3_read 63 = .ok (.ireturn, 1) := by decide +kernel
theorem dX3_read_64 : decode cX3_read 64 = .ok (.aload_n 0, 1) := by decide +kernel
theorem dX3_read_65 : decode cX3_read 65 = .ok (.getfield 55, 3) := by decide +kernel
theorem dX3_read_68 : decode cX3_read 68 = .ok (.aload_n 0, 1) := by decide +kernel
theorem dX3_read_69 : decode cX3_read 69 = .ok (.getfield 87, 3) := by decide +kernel
theorem dX3_read_72 : decode cX3_read 72 = .ok (.iload_n 1, 1) := by decide +kernel
theorem dX3_read_73 : decode cX3_read 73 = .ok (.iastore, 1) := by decide +kernel
theorem dX3_read_74 : decode cX3_read 74 = .ok (.aload_n 0, 1) := by decide +kernel
theorem dX3_read_75 : decode cX3_read 75 = .ok (.getfield 58, 3) := by decide +kernel
theorem dX3_read_78 : decode cX3_read 78 = .ok (.aload_n 0, 1) := by decide +kernel
theorem dX3_read_79 : decode cX3_read 79 = .ok (.getfield 87, 3) := by decide +kernel
theorem dX3_read_82 : decode cX3_read 82 = .ok (.iload_n 2, 1) := by decide +kernel
theorem dX3_read_83 : decode cX3_read 83 = .ok (.iastore, 1) := by decide +kernel
theorem dX3_read_84 : decode cX3_read 84 = .ok (.aload_n 0, 1) := by decide +kernel
theorem dX3_read_85 : decode cX3_read 85 = .ok (.getfield 61, 3) := by decide +kernel
theorem dX3_read_88 : decode cX3_read 88 = .ok (.aload_n 0, 1) := by decide +kernel
theorem dX3_read_89 : decode cX3_read 89 = .ok (.getfield 87, 3) := by decide +kernel
theorem dX3_read_92 : decode cX3_read 92 = .ok (.iload_n 3, 1) := by decide +kernel
theorem dX3_read_93 : decode cX3_read 93 = .ok (.iastore, 1) := by decide +kernel
theorem dX3_read_94 : decode cX3_read 94 = .ok (.aload_n 0, 1) := by decide +kernel
theorem dX3_read_95 : decode cX3_read 95 = .ok (.getfield 64, 3) := by decide +kernel
theorem dX3_read_98 : decode cX3_read 98 = .ok (.aload_n 0, 1) := by decide +kernel
theorem dX3_read_99 : decode cX3_read 99 = .ok (.getfield 87, 3) := by decide +kernel
theorem dX3_read_102 : decode cX3_read 102 = .ok (.iload 4, 2) := by decide +kernel
theorem dX3_read_104 : decode cX3_read 104 = .ok (.iastore, 1) := by decide +kernel
theorem dX3_read_105 : decode cX3_read 105 = .ok (.aload_n 0, 1) := by decide +kernel
theorem dX3_read_106 : decode cX3_read 106 = .ok (.dup, 1) := by decide +kernel
theorem dX3_read_107 : decode cX3_read 107 = .ok (.getfield 87, 3) := by decide +kernel
theorem dX3_read_110 : decode cX3_read 110 = .ok (.iconst 1, 1) := by decide +kernel
theorem dX3_read_111 : decode cX3_read 111 = .ok (.iadd, 1) := by decide +kernel
theorem dX3_read_112 : decode cX3_read 112 = .ok (.putfield 87, 3) := by decide +kernel
theorem dX3_read_115 : decode cX3_read 115 = .ok (.aload_n 0, 1) := by decide +kernel
theorem dX3_read_116 : decode cX3_read 116 = .ok (.getfield 87, 3) := by decide +kernel
theorem dX3_read_119 : decode cX3_read 119 = .ok (.ireturn, 1) := by decide +kernel
theorem dX3_forget_0 : decode cX3_forget 0 = .ok (.aload_n 0, 1) := by decide +kernel
theorem dX3_forget_1 : decode cX3_forget 1 = .ok (.getfield 87, 3) := by decide +kernel
theorem dX3_forget_4 : decode cX3_forget 4 = .ok (.istore_n 1, 1) := by decide +kernel
theorem dX3_forget_5 : decode cX3_forget 5 = .ok (.aload_n 0, 1) := by decide +kernel
theorem dX3_forget_6 : decode cX3_forget 6 = .ok (.iconst 0, 1) := by decide +kernel
theorem dX3_forget_7 : decode cX3_forget 7 = .ok (.putfield 87, 3) := by decide +kernel
theorem dX3_forget_10 : decode cX3_forget 10 = .ok (.iload_n 1, 1) := by decide +kernel
theorem dX3_forget_11 : decode cX3_forget 11 = .ok (.ireturn, 1) := by decide +kernel
theorem dX3_fits_0 : decode cX3_fits 0 = .ok (.aload_n 0, 1) := by decide +kernel
theorem dX3_fits_1 : decode cX3_fits 1 = .ok (.invokevirtual 128, 3) := by decide +kernel
theorem dX3_fits_4 : decode cX3_fits 4 = .ok (.ifCond .eq 12, 3) := by decide +kernel
theorem dX3_fits_7 : decode cX3_fits 7 = .ok (.aload_n 0, 1) := by decide +kernel
theorem dX3_fits_8 : decode cX3_fits 8 = .ok (.getfield 178, 3) := by decide +kernel
theorem dX3_fits_11 : decode cX3_fits 11 = .ok (.bipush 30, 2) := by decide +kernel
theorem dX3_fits_13 : decode cX3_fits 13 = .ok (.if_icmp .ne 6, 3) := by decide +kernel
theorem dX3_fits_16 : decode cX3_fits 16 = .ok (.bipush (-103), 2) := by decide +kernel
theorem dX3_fits_18 : decode cX3_fits 18 = .ok (.ireturn, 1) := by decide +kernel
theorem dX3_fits_19 : decode cX3_fits 19 = .ok (.aload_n 0, 1) := by decide +kernel
theorem dX3_fits_20 : decode cX3_fits 20 = .ok (.dup, 1) := by decide +kernel
theorem dX3_fits_21 : decode cX3_fits 21 = .ok (.getfield 178, 3) := by decide +kernel
theorem dX3_fits_24 : decode cX3_fits 24 = .ok (.iconst 1, 1) := by decide +kernel
theorem dX3_fits_25 : decode cX3_fits 25 = .ok (.iadd, 1) := by decide +kernel
theorem dX3_fits_26 : decode cX3_fits 26 = .ok (.putfield 178, 3) := by decide +kernel
theorem dX3_fits_29 : decode cX3_fits 29 = .ok (.aload_n 0, 1) := by decide +kernel
theorem dX3_fits_30 : decode cX3_fits 30 = .ok (.getfield 70, 3) := by decide +kernel
theorem dX3_fits_33 : decode cX3_fits 33 = .ok (.istore_n 1, 1) := by decide +kernel
theorem dX3_fits_34 : decode cX3_fits 34 = .ok (.aload_n 0, 1) := by decide +kernel
theorem dX3_fits_35 : decode cX3_fits 35 = .ok (.getfield 111, 3) := by decide +kernel
theorem dX3_fits_38 : decode cX3_fits 38 = .ok (.istore_n 2, 1) := by decide +kernel
theorem dX3_fits_39 : decode cX3_fits 39 = .ok (.aload_n 0, 1) := by decide +kernel
theorem dX3_fits_40 : decode cX3_fits 40 = .ok (.invokevirtual 172, 3) := by decide +kernel
theorem dX3_fits_43 : decode cX3_fits 43 = .ok (.iconst 0, 1) := by decide +kernel
theorem dX3_fits_44 : decode cX3_fits 44 = .ok (.istore_n 3, 1) := by decide +kernel
theorem dX3_fits_45 : decode cX3_fits 45 = .ok (.iload_n 3, 1) := by decide +kernel
theorem dX3_fits_46 : decode cX3_fits 46 = .ok (.iconst 5, 1) := by decide +kernel
theorem dX3_fits_47 : decode cX3_fits 47 = .ok (.if_icmp .ge 21, 3) := by decide +kernel
theorem dX3_fits_50 : decode cX3_fits 50 = .ok (.aload_n 0, 1) := by decide +kernel
theorem dX3_fits_51 : decode cX3_fits 51 = .ok (.getfield 67, 3) := by decide +kernel
theorem dX3_fits_54 : decode cX3_fits 54 = .ok (.iload_n 3, 1) := by decide +kernel
theorem dX3_fits_55 : decode cX3_fits 55 = .ok (.aload_n 0, 1) := by decide +kernel
theorem dX3_fits_56 : decode cX3_fits 56 = .ok (.getfield 37, 3) := by decide +kernel
theorem dX3_fits_59 : decode cX3_fits 59 = .ok (.iload_n 3, 1) := by decide +kernel
theorem dX3_fits_60 : decode cX3_fits 60 = .ok (.iaload, 1) := by decide +kernel
theorem dX3_fits_61 : decode cX3_fits 61 = .ok (.iastore, 1) := by decide +kernel
theorem dX3_fits_62 : decode cX3_fits 62 = .ok (.iinc 3 1, 3) := by decide +kernel
theorem dX3_fits_65 : decode cX3_fits 65 = .ok (.goto (-20), 3) := by decide +kernel
theorem dX3_fits_68 : decode cX3_fits 68 = .ok (.iconst 0, 1) := by decide +kernel
theorem dX3_fits_69 : decode cX3_fits 69 = .ok (.istore_n 3, 1) := by decide +kernel
theorem dX3_fits_70 : decode cX3_fits 70 = .ok (.iconst 0, 1) := by decide +kernel
theorem dX3_fits_71 : decode cX3_fits 71 = .ok (.istore 4, 2) := by decide +kernel
theorem dX3_fits_73 : decode cX3_fits 73 = .ok (.iload 4, 2) := by decide +kernel
theorem dX3_fits_75 : decode cX3_fits 75 = .ok (.bipush 10, 2) := by decide +kernel
theorem dX3_fits_77 : decode cX3_fits 77 = .ok (.if_icmp .gt 167, 3) := by decide +kernel
theorem dX3_fits_80 : decode cX3_fits 80 = .ok (.aload_n 0, 1) := by decide +kernel
theorem dX3_fits_81 : decode cX3_fits 81 = .ok (.iload 4, 2) := by decide +kernel
theorem dX3_fits_83 : decode cX3_fits 83 = .ok (.putfield 70, 3) := by decide +kernel
theorem dX3_fits_86 : decode cX3_fits 86 = .ok (.iconst 1, 1) := by decide +kernel
theorem dX3_fits_87 : decode cX3_fits 87 = .ok (.istore 5, 2) := by decide +kernel
theorem dX3_fits_89 : decode cX3_fits 89 = .ok (.iconst 1, 1) := by decide +kernel
theorem dX3_fits_90 : decode cX3_fits 90 = .ok (.istore 6, 2) := by decide +kernel
theorem dX3_fits_92 : decode cX3_fits 92 = .ok (.iload 6, 2) := by decide +kernel
theorem dX3_fits_94 : decode cX3_fits 94 = .ok (.bipush 100, 2) := by decide +kernel
theorem dX3_fits_96 : decode cX3_fits 96 = .ok (.if_icmp .gt 97, 3) := by decide +kernel
theorem dX3_fits_99 : decode cX3_fits 99 = .ok (.iload 5, 2) := by decide +kernel
theorem dX3_fits_101 : decode cX3_fits 101 = .ok (.ifCond .eq 92, 3) := by decide +kernel
theorem dX3_fits_104 : decode cX3_fits 104 = .ok (.aload_n 0, 1) := by decide +kernel
theorem dX3_fits_105 : decode cX3_fits 105 = .ok (.invokevirtual 132, 3) := by decide +kernel
theorem dX3_fits_108 : decode cX3_fits 108 = .ok (.iconst 0, 1) := by decide +kernel
theorem dX3_fits_109 : decode cX3_fits 109 = .ok (.istore 7, 2) := by decide +kernel
theorem dX3_fits_111 : decode cX3_fits 111 = .ok (.iload 7, 2) := by decide +kernel
theorem dX3_fits_113 : decode cX3_fits 113 = .ok (.aload_n 0, 1) := by decide +kernel
theorem dX3_fits_114 : decode cX3_fits 114 = .ok (.getfield 87, 3) := by decide +kernel
theorem dX3_fits_117 : decode cX3_fits 117 = .ok (.if_icmp .ge 70, 3) := by decide +kernel
theorem dX3_fits_120 : decode cX3_fits 120 = .ok (.aload_n 0, 1) := by decide +kernel
theorem dX3_fits_121 : decode cX3_fits 121 = .ok (.getfield 58, 3) := by decide +kernel
theorem dX3_fits_124 : decode cX3_fits 124 = .ok (.iload 7, 2) := by decide +kernel
theorem dX3_fits_126 : decode cX3_fits 126 = .ok (.iaload, 1) := by decide +kernel
theorem dX3_fits_127 : decode cX3_fits 127 = .ok (.iload 6, 2) := by decide +kernel
theorem dX3_fits_129 : decode cX3_fits 129 = .ok (.if_icmp .ne 52, 3) := by decide +kernel
theorem dX3_fits_132 : decode cX3_fits 132 = .ok (.aload_n 0, 1) := by decide +kernel
theorem dX3_fits_133 : decode cX3_fits 133 = .ok (.aload_n 0, 1) := by decide +kernel
theorem dX3_fits_134 : decode cX3_fits 134 = .ok (.getfield 55, 3) := by decide +kernel
theorem dX3_fits_137 : decode cX3_fits 137 = .ok (.iload 7, 2) := by decide +kernel
theorem dX3_fits_139 : decode cX3_fits 139 = .ok (.iaload, 1) := by decide +kernel
theorem dX3_fits_140 : decode cX3_fits 140 = .ok (.invokevirtual 96, 3) := by decide +kernel
theorem dX3_fits_143 : decode cX3_fits 143 = .ok (.istore 8, 2) := by decide +kernel
theorem dX3_fits_145 : decode cX3_fits 145 = .ok (.iload 5, 2) := by decide +kernel
theorem dX3_fits_147 : decode cX3_fits 147 = .ok (.ifCond .eq 31, 3) := by decide +kernel
theorem dX3_fits_150 : decode cX3_fits 150 = .ok (.iload 8, 2) := by decide +kernel
theorem dX3_fits_152 : decode cX3_fits 152 = .ok (.aload_n 0, 1) := by decide +kernel
theorem dX3_fits_153 : decode cX3_fits 153 = .ok (.getfield 61, 3) := by decide +kernel
theorem dX3_fits_156 : decode cX3_fits 156 = .ok (.iload 7, 2) := by decide +kernel
theorem dX3_fits_158 : decode cX3_fits 158 = .ok (.iaload, 1) := by decide +kernel
theorem dX3_fits_159 : decode cX3_fits 159 = .ok (.if_icmp .lt 19, 3) := by decide +kernel
theorem dX3_fits_162 : decode cX3_fits 162 = .ok (.iload 8, 2) := by decide +kernel
theorem dX3_fits_164 : decode cX3_fits 164 = .ok (.aload_n 0, 1) := by decide +kernel
theorem dX3_fits_165 : decode cX3_fits 165 = .ok (.getfield 64, 3) := by decide +kernel
theorem dX3_fits_168 : decode cX3_fits 168 = .ok (.iload 7, 2) := by decide +kernel
theorem dX3_fits_170 : decode cX3_fits 170 = .ok (.iaload, 1) := by decide +kernel
theorem dX3_fits_171 : decode cX3_fits 171 = .ok (.if_icmp .gt 7, 3) := by decide +kernel
theorem dX3_fits_174 : decode cX3_fits 174 = .ok (.iconst 1, 1) := by decide +kernel
theorem dX3_fits_175 : decode cX3_fits 175 = .ok (.goto 4, 3) := by decide +kernel
theorem dX3_fits_178 : decode cX3_fits 178 = .ok (.iconst 0, 1) := by decide +kernel
theorem dX3_fits_179 : decode cX3_fits 179 = .ok (.istore 5, 2) := by decide +kernel
theorem dX3_fits_181 : decode cX3_fits 181 = .ok (.iinc 7 1, 3) := by decide +kernel
theorem dX3_fits_184 : decode cX3_fits 184 = .ok (.goto (-73), 3) := by decide +kernel
theorem dX3_fits_187 : decode cX3_fits 187 = .ok (.iinc 6 1, 3) := by decide +kernel
theorem dX3_fits_190 : decode cX3_fits 190 = .ok (.goto (-98), 3) := by decide +kernel
theorem dX3_fits_193 : decode cX3_fits 193 = .ok (.iload_n 3, 1) := by decide +kernel
theorem dX3_fits_194 : decode cX3_fits 194 = .ok (.iload 5, 2) := by decide +kernel
theorem dX3_fits_196 : decode cX3_fits 196 = .ok (.ifCond .eq 10, 3) := by decide +kernel
theorem dX3_fits_199 : decode cX3_fits 199 = .ok (.iconst 1, 1) := by decide +kernel
theorem dX3_fits_200 : decode cX3_fits 200 = .ok (.iload 4, 2) := by decide +kernel
theorem dX3_fits_202 : decode cX3_fits 202 = .ok (.ishl, 1) := by decide +kernel
theorem dX3_fits_203 : decode cX3_fits 203 = .ok (.goto 4, 3) := by decide +kernel
theorem dX3_fits_206 : decode cX3_fits 206 = .ok (.iconst 0, 1) := by decide +kernel
theorem dX3_fits_207 : decode cX3_fits 207 = .ok (.ior, 1) := by decide +kernel
theorem dX3_fits_208 : decode cX3_fits 208 = .ok (.istore_n 3, 1) := by decide +kernel
theorem dX3_fits_209 : decode cX3_fits 209 = .ok (.aload_n 0, 1) := by decide +kernel
theorem dX3_fits_210 : decode cX3_fits 210 = .ok (.iload_n 2, 1) := by decide +kernel
theorem dX3_fits_211 : decode cX3_fits 211 = .ok (.putfield 111, 3) := by decide +kernel
theorem dX3_fits_214 : decode cX3_fits 214 = .ok (.iconst 0, 1) := by decide +kernel
theorem dX3_fits_215 : decode cX3_fits 215 = .ok (.istore 6, 2) := by decide +kernel
theorem dX3_fits_217 : decode cX3_fits 217 = .ok (.iload 6, 2) := by decide +kernel
theorem dX3_fits_219 : decode cX3_fits 219 = .ok (.bipush 6, 2) := by decide +kernel
theorem dX3_fits_221 : decode cX3_fits 221 = .ok (.if_icmp .ge 17, 3) := by decide +kernel
theorem dX3_fits_224 : decode cX3_fits 224 = .ok (.aload_n 0, 1) := by decide +kernel
theorem dX3_fits_225 : decode cX3_fits 225 = .ok (.iload 6, 2) := by decide +kernel
theorem dX3_fits_227 : decode cX3_fits 227 = .ok (.iload 6, 2) := by decide +kernel
theorem dX3_fits_229 : decode cX3_fits 229 = .ok (.invokevirtual 175, 3) := by decide +kernel
theorem dX3_fits_232 : decode cX3_fits 232 = .ok (.iinc 6 1, 3) := by decide +kernel
theorem dX3_fits_235 : decode cX3_fits 235 = .ok (.goto (-18), 3) := by decide +kernel
theorem dX3_fits_238 : decode cX3_fits 238 = .ok (.iinc 4 1, 3) := by decide +kernel
theorem dX3_fits_241 : decode cX3_fits 241 = .ok (.goto (-168), 3) := by decide +kernel
theorem dX3_fits_244 : decode cX3_fits 244 = .ok (.aload_n 0, 1) := by decide +kernel
theorem dX3_fits_245 : decode cX3_fits 245 = .ok (.iload_n 1, 1) := by decide +kernel
theorem dX3_fits_246 : decode cX3_fits 246 = .ok (.putfield 70, 3) := by decide +kernel
theorem dX3_fits_249 : decode cX3_fits 249 = .ok (.iconst 0, 1) := by decide +kernel
theorem dX3_fits_250 : decode cX3_fits 250 = .ok (.istore 4, 2) := by decide +kernel
theorem dX3_fits_252 : decode cX3_fits 252 = .ok (.iload 4, 2) := by decide +kernel
theorem dX3_fits_254 : decode cX3_fits 254 = .ok (.iconst 5, 1) := by decide +kernel
theorem dX3_fits_255 : decode cX3_fits 255 = .ok (.if_icmp .ge 23, 3) := by decide +kernel
theorem dX3_fits_258 : decode cX3_fits 258 = .ok (.aload_n 0, 1) := by decide +kernel
theorem dX3_fits_259 : decode cX3_fits 259 = .ok (.getfield 37, 3) := by decide +kernel
theorem dX3_fits_262 : decode cX3_fits 262 = .ok (.iload 4, 2) := by decide +kernel
theorem dX3_fits_264 : decode cX3_fits 264 = .ok (.aload_n 0, 1) := by decide +kernel
theorem dX3_fits_265 : decode cX3_fits 265 = .ok (.getfield 67, 3) := by decide +kernel
theorem dX3_fits_268 : decode cX3_fits 268 = .ok (.iload 4, 2) := by decide +kernel
theorem dX3_fits_270 : decode cX3_fits 270 = .ok (.iaload, 1) := by decide +kernel
theorem dX3_fits_271 : decode cX3_fits 271 = .ok (.iastore, 1) := by decide +kernel
theorem dX3_fits_272 : decode cX3_fits 272 = .ok (.iinc 4 1, 3) := by decide +kernel
theorem dX3_fits_275 : decode cX3_fits 275 = .ok (.goto (-23), 3) := by decide +kernel
theorem dX3_fits_278 : decode cX3_fits 278 = .ok (.iload_n 3, 1) := by decide +kernel
theorem dX3_fits_279 : decode cX3_fits 279 = .ok (.ireturn, 1) := by decide +kernel
theorem dX3_count_0 : decode cX3_count 0 = .ok (.iload_n 1, 1) := by decide +kernel
theorem dX3_count_1 : decode cX3_count 1 = .ok (.tableswitch 102 0 6 #[43, 48, 53, 58, 63, 68, 97], 43) := by decide +kernel
theorem dX3_count_44 : decode cX3_count 44 = .ok (.aload_n 0, 1) := by decide +kernel
theorem dX3_count_45 : decode cX3_count 45 = .ok (.getfield 74, 3) := by decide +kernel
theorem dX3_count_48 : decode cX3_count 48 = .ok (.ireturn, 1) := by decide +kernel
theorem dX3_count_49 : decode cX3_count 49 = .ok (.aload_n 0, 1) := by decide +kernel
theorem dX3_count_50 : decode cX3_count 50 = .ok (.getfield 108, 3) := by decide +kernel
theorem dX3_count_53 : decode cX3_count 53 = .ok (.ireturn, 1) := by decide +kernel
theorem dX3_count_54 : decode cX3_count 54 = .ok (.aload_n 0, 1) := by decide +kernel
theorem dX3_count_55 : decode cX3_count 55 = .ok (.getfield 111, 3) := by decide +kernel
theorem dX3_count_58 : decode cX3_count 58 = .ok (.ireturn, 1) := by decide +kernel
theorem dX3_count_59 : decode cX3_count 59 = .ok (.aload_n 0, 1) := by decide +kernel
theorem dX3_count_60 : decode cX3_count 60 = .ok (.getfield 70, 3) := by decide +kernel
theorem dX3_count_63 : decode cX3_count 63 = .ok (.ireturn, 1) := by decide +kernel
theorem dX3_count_64 : decode cX3_count 64 = .ok (.aload_n 0, 1) := by decide +kernel
theorem dX3_count_65 : decode cX3_count 65 = .ok (.getfield 87, 3) := by decide +kernel
theorem dX3_count_68 : decode cX3_count 68 = .ok (.ireturn, 1) := by decide +kernel
theorem dX3_count_69 : decode cX3_count 69 = .ok (.iconst 0, 1) := by decide +kernel
theorem dX3_count_70 : decode cX3_count 70 = .ok (.istore_n 2, 1) := by decide +kernel
theorem dX3_count_71 : decode cX3_count 71 = .ok (.iconst 0, 1) := by decide +kernel
theorem dX3_count_72 : decode cX3_count 72 = .ok (.istore_n 3, 1) := by decide +kernel
theorem dX3_count_73 : decode cX3_count 73 = .ok (.iload_n 3, 1) := by decide +kernel
theorem dX3_count_74 : decode cX3_count 74 = .ok (.aload_n 0, 1) := by decide +kernel
theorem dX3_count_75 : decode cX3_count 75 = .ok (.getfield 74, 3) := by decide +kernel
theorem dX3_count_78 : decode cX3_count 78 = .ok (.if_icmp .ge 18, 3) := by decide +kernel
theorem dX3_count_81 : decode cX3_count 81 = .ok (.iload_n 2, 1) := by decide +kernel
theorem dX3_count_82 : decode cX3_count 82 = .ok (.aload_n 0, 1) := by decide +kernel
theorem dX3_count_83 : decode cX3_count 83 = .ok (.getfield 22, 3) := by decide +kernel
theorem dX3_count_86 : decode cX3_count 86 = .ok (.iload_n 3, 1) := by decide +kernel
theorem dX3_count_87 : decode cX3_count 87 = .ok (.iaload, 1) := by decide +kernel
theorem dX3_count_88 : decode cX3_count 88 = .ok (.iadd, 1) := by decide +kernel
theorem dX3_count_89 : decode cX3_count 89 = .ok (.istore_n 2, 1) := by decide +kernel
theorem dX3_count_90 : decode cX3_count 90 = .ok (.iinc 3 1, 3) := by decide +kernel
theorem dX3_count_93 : decode cX3_count 93 = .ok (.goto (-20), 3) := by decide +kernel
theorem dX3_count_96 : decode cX3_count 96 = .ok (.iload_n 2, 1) := by decide +kernel
theorem dX3_count_97 : decode cX3_count 97 = .ok (.ireturn, 1) := by decide +kernel
theorem dX3_count_98 : decode cX3_count 98 = .ok (.aload_n 0, 1) := by decide +kernel
theorem dX3_count_99 : decode cX3_count 99 = .ok (.getfield 178, 3) := by decide +kernel
theorem dX3_count_102 : decode cX3_count 102 = .ok (.ireturn, 1) := by decide +kernel
theorem dX3_count_103 : decode cX3_count 103 = .ok (.bipush (-102), 2) := by decide +kernel
theorem dX3_count_105 : decode cX3_count 105 = .ok (.ireturn, 1) := by decide +kernel
theorem dX3_digest_0 : decode cX3_digest 0 = .ok (.ldc2_w 181, 3) := by decide +kernel
theorem dX3_digest_3 : decode cX3_digest 3 = .ok (.lstore_n 1, 1) := by decide +kernel
theorem dX3_digest_4 : decode cX3_digest 4 = .ok (.iconst 0, 1) := by decide +kernel
theorem dX3_digest_5 : decode cX3_digest 5 = .ok (.istore_n 3, 1) := by decide +kernel
theorem dX3_digest_6 : decode cX3_digest 6 = .ok (.iload_n 3, 1) := by decide +kernel
theorem dX3_digest_7 : decode cX3_digest 7 = .ok (.bipush 15, 2) := by decide +kernel
theorem dX3_digest_9 : decode cX3_digest 9 = .ok (.if_icmp .ge 23, 3) := by decide +kernel
theorem dX3_digest_12 : decode cX3_digest 12 = .ok (.ldc2_w 183, 3) := by decide +kernel
theorem dX3_digest_15 : decode cX3_digest 15 = .ok (.lload_n 1, 1) := by decide +kernel
theorem dX3_digest_16 : decode cX3_digest 16 = .ok (.lmul, 1) := by decide +kernel
theorem dX3_digest_17 : decode cX3_digest 17 = .ok (.aload_n 0, 1) := by decide +kernel
theorem dX3_digest_18 : decode cX3_digest 18 = .ok (.getfield 34, 3) := by decide +kernel
theorem dX3_digest_21 : decode cX3_digest 21 = .ok (.iload_n 3, 1) := by decide +kernel
theorem dX3_digest_22 : decode cX3_digest 22 = .ok (.iaload, 1) := by decide +kernel
theorem dX3_digest_23 : decode cX3_digest 23 = .ok (.i2l, 1) := by decide +kernel
theorem dX3_digest_24 : decode cX3_digest 24 = .ok (.ladd, 1) := by decide +kernel
theorem dX3_digest_25 : decode cX3_digest 25 = .ok (.lstore_n 1, 1) := by decide +kernel
theorem dX3_digest_26 : decode cX3_digest 26 = .ok (.iinc 3 1, 3) := by decide +kernel
theorem dX3_digest_29 : decode cX3_digest 29 = .ok (.goto (-23), 3) := by decide +kernel
theorem dX3_digest_32 : decode cX3_digest 32 = .ok (.iconst 0, 1) := by decide +kernel
theorem dX3_digest_33 : decode cX3_digest 33 = .ok (.istore_n 3, 1) := by decide +kernel
theorem dX3_digest_34 : decode cX3_digest 34 = .ok (.iload_n 3, 1) := by decide +kernel
theorem dX3_digest_35 : decode cX3_digest 35 = .ok (.aload_n 0, 1) := by decide +kernel
theorem dX3_digest_36 : decode cX3_digest 36 = .ok (.getfield 74, 3) := by decide +kernel
theorem dX3_digest_39 : decode cX3_digest 39 = .ok (.if_icmp .ge 40, 3) := by decide +kernel
theorem dX3_digest_42 : decode cX3_digest 42 = .ok (.iconst 0, 1) := by decide +kernel
theorem dX3_digest_43 : decode cX3_digest 43 = .ok (.istore 4, 2) := by decide +kernel
theorem dX3_digest_45 : decode cX3_digest 45 = .ok (.iload 4, 2) := by decide +kernel
theorem dX3_digest_47 : decode cX3_digest 47 = .ok (.bipush 9, 2) := by decide +kernel
theorem dX3_digest_49 : decode cX3_digest 49 = .ok (.if_icmp .ge 24, 3) := by decide +kernel
theorem dX3_digest_52 : decode cX3_digest 52 = .ok (.ldc2_w 183, 3) := by decide +kernel
theorem dX3_digest_55 : decode cX3_digest 55 = .ok (.lload_n 1, 1) := by decide +kernel
theorem dX3_digest_56 : decode cX3_digest 56 = .ok (.lmul, 1) := by decide +kernel
theorem dX3_digest_57 : decode cX3_digest 57 = .ok (.aload_n 0, 1) := by decide +kernel
theorem dX3_digest_58 : decode cX3_digest 58 = .ok (.iload_n 3, 1) := by decide +kernel
theorem dX3_digest_59 : decode cX3_digest 59 = .ok (.iload 4, 2) := by decide +kernel
theorem dX3_digest_61 : decode cX3_digest 61 = .ok (.invokevirtual 100, 3) := by decide +kernel
theorem dX3_digest_64 : decode cX3_digest 64 = .ok (.i2l, 1) := by decide +kernel
theorem dX3_digest_65 : decode cX3_digest 65 = .ok (.ladd, 1) := by decide +kernel
theorem dX3_digest_66 : decode cX3_digest 66 = .ok (.lstore_n 1, 1) := by decide +kernel
theorem dX3_digest_67 : decode cX3_digest 67 = .ok (.iinc 4 1, 3) := by decide +kernel
theorem dX3_digest_70 : decode cX3_digest 70 = .ok (.goto (-25), 3) := by decide +kernel
theorem dX3_digest_73 : decode cX3_digest 73 = .ok (.iinc 3 1, 3) := by decide +kernel
theorem dX3_digest_76 : decode cX3_digest 76 = .ok (.goto (-42), 3) := by decide +kernel
theorem dX3_digest_79 : decode cX3_digest 79 = .ok (.iconst 0, 1) := by decide +kernel
theorem dX3_digest_80 : decode cX3_digest 80 = .ok (.istore_n 3, 1) := by decide +kernel
theorem dX3_digest_81 : decode cX3_digest 81 = .ok (.iload_n 3, 1) := by decide +kernel
theorem dX3_digest_82 : decode cX3_digest 82 = .ok (.iconst 5, 1) := by decide +kernel
theorem dX3_digest_83 : decode cX3_digest 83 = .ok (.aload_n 0, 1) := by decide +kernel
theorem dX3_digest_84 : decode cX3_digest 84 = .ok (.getfield 108, 3) := by decide +kernel
theorem dX3_digest_87 : decode cX3_digest 87 = .ok (.imul, 1) := by decide +kernel
theorem dX3_digest_88 : decode cX3_digest 88 = .ok (.if_icmp .ge 23, 3) := by decide +kernel
theorem dX3_digest_91 : decode cX3_digest 91 = .ok (.ldc2_w 183, 3) := by decide +kernel
theorem dX3_digest_94 : decode cX3_digest 94 = .ok (.lload_n 1, 1) := by decide +kernel
theorem dX3_digest_95 : decode cX3_digest 95 = .ok (.lmul, 1) := by decide +kernel
theorem dX3_digest_96 : decode cX3_digest 96 = .ok (.aload_n 0, 1) := by decide +kernel
theorem dX3_digest_97 : decode cX3_digest 97 = .ok (.getfield 40, 3) := by decide +kernel
theorem dX3_digest_100 : decode cX3_digest 100 = .ok (.iload_n 3, 1) := by decide +kernel
theorem dX3_digest_101 : decode cX3_digest 101 = .ok (.iaload, 1) := by decide +kernel
theorem dX3_digest_102 : decode cX3_digest 102 = .ok (.i2l, 1) := by decide +kernel
theorem dX3_digest_103 : decode cX3_digest 103 = .ok (.ladd, 1) := by decide +kernel
theorem dX3_digest_104 : decode cX3_digest 104 = .ok (.lstore_n 1, 1) := by decide +kernel
theorem dX3_digest_105 : decode cX3_digest 105 = .ok (.iinc 3 1, 3) := by decide +kernel
theorem dX3_digest_108 : decode cX3_digest 108 = .ok (.goto (-27), 3) := by decide +kernel
theorem dX3_digest_111 : decode cX3_digest 111 = .ok (.iconst 0, 1) := by decide +kernel
theorem dX3_digest_112 : decode cX3_digest 112 = .ok (.istore_n 3, 1) := by decide +kernel
theorem dX3_digest_113 : decode cX3_digest 113 = .ok (.iload_n 3, 1) := by decide +kernel
theorem dX3_digest_114 : decode cX3_digest 114 = .ok (.iconst 5, 1) := by decide +kernel
theorem dX3_digest_115 : decode cX3_digest 115 = .ok (.if_icmp .ge 23, 3) := by decide +kernel
theorem dX3_digest_118 : decode cX3_digest 118 = .ok (.ldc2_w 183, 3) := by decide +kernel
theorem dX3_digest_121 : decode cX3_digest 121 = .ok (.lload_n 1, 1) := by decide +kernel
theorem dX3_digest_122 : decode cX3_digest 122 = .ok (.lmul, 1) := by decide +kernel
theorem dX3_digest_123 : decode cX3_digest 123 = .ok (.aload_n 0, 1) := by decide +kernel
theorem dX3_digest_124 : decode cX3_digest 124 = .ok (.getfield 37, 3) := by decide +kernel
theorem dX3_digest_127 : decode cX3_digest 127 = .ok (.iload_n 3, 1) := by decide +kernel
theorem dX3_digest_128 : decode cX3_digest 128 = .ok (.iaload, 1) := by decide +kernel
theorem dX3_digest_129 : decode cX3_digest 129 = .ok (.i2l, 1) := by decide +kernel
theorem dX3_digest_130 : decode cX3_digest 130 = .ok (.ladd, 1) := by decide +kernel
theorem dX3_digest_131 : decode cX3_digest 131 = .ok (.lstore_n 1, 1) := by decide +kernel
theorem dX3_digest_132 : decode cX3_digest 132 = .ok (.iinc 3 1, 3) := by decide +kernel
theorem dX3_digest_135 : decode cX3_digest 135 = .ok (.goto (-22), 3) := by decide +kernel
theorem dX3_digest_138 : decode cX3_digest 138 = .ok (.iconst 0, 1) := by decide +kernel
theorem dX3_digest_139 : decode cX3_digest 139 = .ok (.istore_n 3, 1) := by decide +kernel
theorem dX3_digest_140 : decode cX3_digest 140 = .ok (.iload_n 3, 1) := by decide +kernel
theorem dX3_digest_141 : decode cX3_digest 141 = .ok (.aload_n 0, 1) := by decide +kernel
theorem dX3_digest_142 : decode cX3_digest 142 = .ok (.getfield 87, 3) := by decide +kernel
theorem dX3_digest_145 : decode cX3_digest 145 = .ok (.if_icmp .ge 65, 3) := by decide +kernel
theorem dX3_digest_148 : decode cX3_digest 148 = .ok (.ldc2_w 183, 3) := by decide +kernel
theorem dX3_digest_151 : decode cX3_digest 151 = .ok (.lload_n 1, 1) := by decide +kernel
theorem dX3_digest_152 : decode cX3_digest 152 = .ok (.lmul, 1) := by decide +kernel
theorem dX3_digest_153 : decode cX3_digest 153 = .ok (.aload_n 0, 1) := by decide +kernel
theorem dX3_digest_154 : decode cX3_digest 154 = .ok (.getfield 55, 3) := by decide +kernel
theorem dX3_digest_157 : decode cX3_digest 157 = .ok (.iload_n 3, 1) := by decide +kernel
theorem dX3_digest_158 : decode cX3_digest 158 = .ok (.iaload, 1) := by decide +kernel
theorem dX3_digest_159 : decode cX3_digest 159 = .ok (.i2l, 1) := by decide +kernel
theorem dX3_digest_160 : decode cX3_digest 160 = .ok (.ladd, 1) := by decide +kernel
theorem dX3_digest_161 : decode cX3_digest 161 = .ok (.lstore_n 1, 1) := by decide +kernel
theorem dX3_digest_162 : decode cX3_digest 162 = .ok (.ldc2_w 183, 3) := by decide +kernel
theorem dX3_digest_165 : decode cX3_digest 165 = .ok (.lload_n 1, 1) := by decide +kernel
theorem dX3_digest_166 : decode cX3_digest 166 = .ok (.lmul, 1) := by decide +kernel
theorem dX3_digest_167 : decode cX3_digest 167 = .ok (.aload_n 0, 1) := by decide +kernel
theorem dX3_digest_168 : decode cX3_digest 168 = .ok (.getfield 58, 3) := by decide +kernel
theorem dX3_digest_171 : decode cX3_digest 171 = .ok (.iload_n 3, 1) := by decide +kernel
theorem dX3_digest_172 : decode cX3_digest 172 = .ok (.iaload, 1) := by decide +kernel
theorem dX3_digest_173 : decode cX3_digest 173 = .ok (.i2l, 1) := by decide +kernel
theorem dX3_digest_174 : decode cX3_digest 174 = .ok (.ladd, 1) := by decide +kernel
theorem dX3_digest_175 : decode cX3_digest 175 = .ok (.lstore_n 1, 1) := by decide +kernel
theorem dX3_digest_176 : decode cX3_digest 176 = .ok (.ldc2_w 183, 3) := by decide +kernel
theorem dX3_digest_179 : decode cX3_digest 179 = .ok (.lload_n 1, 1) := by decide +kernel
theorem dX3_digest_180 : decode cX3_digest 180 = .ok (.lmul, 1) := by decide +kernel
theorem dX3_digest_181 : decode cX3_digest 181 = .ok (.aload_n 0, 1) := by decide +kernel
theorem dX3_digest_182 : decode cX3_digest 182 = .ok (.getfield 61, 3) := by decide +kernel
theorem dX3_digest_185 : decode cX3_digest 185 = .ok (.iload_n 3, 1) := by decide +kernel
theorem dX3_digest_186 : decode cX3_digest 186 = .ok (.iaload, 1) := by decide +kernel
theorem dX3_digest_187 : decode cX3_digest 187 = .ok (.i2l, 1) := by decide +kernel
theorem dX3_digest_188 : decode cX3_digest 188 = .ok (.ladd, 1) := by decide +kernel
theorem dX3_digest_189 : decode cX3_digest 189 = .ok (.lstore_n 1, 1) := by decide +kernel
theorem dX3_digest_190 : decode cX3_digest 190 = .ok (.ldc2_w 183, 3) := by decide +kernel
theorem dX3_digest_193 : decode cX3_digest 193 = .ok (.lload_n 1, 1) := by decide +kernel
theorem dX3_digest_194 : decode cX3_digest 194 = .ok (.lmul, 1) := by decide +kernel
theorem dX3_digest_195 : decode cX3_digest 195 = .ok (.aload_n 0, 1) := by decide +kernel
theorem dX3_digest_196 : decode cX3_digest 196 = .ok (.getfield 64, 3) := by decide +kernel
theorem dX3_digest_199 : decode cX3_digest 199 = .ok (.iload_n 3, 1) := by decide +kernel
theorem dX3_digest_200 : decode cX3_digest 200 = .ok (.iaload, 1) := by decide +kernel
theorem dX3_digest_201 : decode cX3_digest 201 = .ok (.i2l, 1) := by decide +kernel
theorem dX3_digest_202 : decode cX3_digest 202 = .ok (.ladd, 1) := by decide +kernel
theorem dX3_digest_203 : decode cX3_digest 203 = .ok (.lstore_n 1, 1) := by decide +kernel
theorem dX3_digest_204 : decode cX3_digest 204 = .ok (.iinc 3 1, 3) := by decide +kernel
theorem dX3_digest_207 : decode cX3_digest 207 = .ok (.goto (-67), 3) := by decide +kernel
theorem dX3_digest_210 : decode cX3_digest 210 = .ok (.ldc2_w 183, 3) := by decide +kernel
theorem dX3_digest_213 : decode cX3_digest 213 = .ok (.lload_n 1, 1) := by decide +kernel
theorem dX3_digest_214 : decode cX3_digest 214 = .ok (.lmul, 1) := by decide +kernel
theorem dX3_digest_215 : decode cX3_digest 215 = .ok (.aload_n 0, 1) := by decide +kernel
theorem dX3_digest_216 : decode cX3_digest 216 = .ok (.getfield 111, 3) := by decide +kernel
theorem dX3_digest_219 : decode cX3_digest 219 = .ok (.i2l, 1) := by decide +kernel
theorem dX3_digest_220 : decode cX3_digest 220 = .ok (.ladd, 1) := by decide +kernel
theorem dX3_digest_221 : decode cX3_digest 221 = .ok (.lstore_n 1, 1) := by decide +kernel
theorem dX3_digest_222 : decode cX3_digest 222 = .ok (.ldc2_w 183, 3) := by decide +kernel
theorem dX3_digest_225 : decode cX3_digest 225 = .ok (.lload_n 1, 1) := by decide +kernel
theorem dX3_digest_226 : decode cX3_digest 226 = .ok (.lmul, 1) := by decide +kernel
theorem dX3_digest_227 : decode cX3_digest 227 = .ok (.aload_n 0, 1) := by decide +kernel
theorem dX3_digest_228 : decode cX3_digest 228 = .ok (.getfield 70, 3) := by decide +kernel
theorem dX3_digest_231 : decode cX3_digest 231 = .ok (.i2l, 1) := by decide +kernel
theorem dX3_digest_232 : decode cX3_digest 232 = .ok (.ladd, 1) := by decide +kernel
theorem dX3_digest_233 : decode cX3_digest 233 = .ok (.lstore_n 1, 1) := by decide +kernel
theorem dX3_digest_234 : decode cX3_digest 234 = .ok (.ldc2_w 183, 3) := by decide +kernel
theorem dX3_digest_237 : decode cX3_digest 237 = .ok (.lload_n 1, 1) := by decide +kernel
theorem dX3_digest_238 : decode cX3_digest 238 = .ok (.lmul, 1) := by decide +kernel
theorem dX3_digest_239 : decode cX3_digest 239 = .ok (.aload_n 0, 1) := by decide +kernel
theorem dX3_digest_240 : decode cX3_digest 240 = .ok (.getfield 178, 3) := by decide +kernel
theorem dX3_digest_243 : decode cX3_digest 243 = .ok (.i2l, 1) := by decide +kernel
theorem dX3_digest_244 : decode cX3_digest 244 = .ok (.ladd, 1) := by decide +kernel
theorem dX3_digest_245 : decode cX3_digest 245 = .ok (.lreturn, 1) := by decide +kernel
