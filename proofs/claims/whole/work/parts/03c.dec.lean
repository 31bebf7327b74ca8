theorem dX3_init_0 : decode cX3_init 0 = .ok (.aload_n 0, 1) := by decide +kernel
theorem dX3_init_1 : decode cX3_init 1 = .ok (.invokespecial 1, 3) := by decide +kernel
theorem dX3_init_4 : decode cX3_init 4 = .ok (.aload_n 0, 1) := by decide +kernel
theorem dX3_init_5 : decode cX3_init 5 = .ok (.bipush 6, 2) := by decide +kernel
theorem dX3_init_7 : decode cX3_init 7 = .ok (.newarray .int, 2) := by decide +kernel
theorem dX3_init_9 : decode cX3_init 9 = .ok (.putfield 7, 3) := by decide +kernel
theorem dX3_init_12 : decode cX3_init 12 = .ok (.aload_n 0, 1) := by decide +kernel
theorem dX3_init_13 : decode cX3_init 13 = .ok (.bipush 6, 2) := by decide +kernel
theorem dX3_init_15 : decode cX3_init 15 = .ok (.newarray .int, 2) := by decide +kernel
theorem dX3_init_17 : decode cX3_init 17 = .ok (.putfield 13, 3) := by decide +kernel
theorem dX3_init_20 : decode cX3_init 20 = .ok (.aload_n 0, 1) := by decide +kernel
theorem dX3_init_21 : decode cX3_init 21 = .ok (.bipush 6, 2) := by decide +kernel
theorem dX3_init_23 : decode cX3_init 23 = .ok (.newarray .int, 2) := by decide +kernel
theorem dX3_init_25 : decode cX3_init 25 = .ok (.putfield 16, 3) := by decide +kernel
theorem dX3_init_28 : decode cX3_init 28 = .ok (.aload_n 0, 1) := by decide +kernel
theorem dX3_init_29 : decode cX3_init 29 = .ok (.bipush 6, 2) := by decide +kernel
theorem dX3_init_31 : decode cX3_init 31 = .ok (.newarray .int, 2) := by decide +kernel
theorem dX3_init_33 : decode cX3_init 33 = .ok (.putfield 19, 3) := by decide +kernel
theorem dX3_init_36 : decode cX3_init 36 = .ok (.aload_n 0, 1) := by decide +kernel
theorem dX3_init_37 : decode cX3_init 37 = .ok (.bipush 6, 2) := by decide +kernel
theorem dX3_init_39 : decode cX3_init 39 = .ok (.newarray .int, 2) := by decide +kernel
theorem dX3_init_41 : decode cX3_init 41 = .ok (.putfield 22, 3) := by decide +kernel
theorem dX3_init_44 : decode cX3_init 44 = .ok (.aload_n 0, 1) := by decide +kernel
theorem dX3_init_45 : decode cX3_init 45 = .ok (.bipush 6, 2) := by decide +kernel
theorem dX3_init_47 : decode cX3_init 47 = .ok (.newarray .int, 2) := by decide +kernel
theorem dX3_init_49 : decode cX3_init 49 = .ok (.putfield 25, 3) := by decide +kernel
theorem dX3_init_52 : decode cX3_init 52 = .ok (.aload_n 0, 1) := by decide +kernel
theorem dX3_init_53 : decode cX3_init 53 = .ok (.bipush 6, 2) := by decide +kernel
theorem dX3_init_55 : decode cX3_init 55 = .ok (.newarray .int, 2) := by decide +kernel
theorem dX3_init_57 : decode cX3_init 57 = .ok (.putfield 28, 3) := by decide +kernel
theorem dX3_init_60 : decode cX3_init 60 = .ok (.aload_n 0, 1) := by decide +kernel
theorem dX3_init_61 : decode cX3_init 61 = .ok (.bipush 6, 2) := by decide +kernel
theorem dX3_init_63 : decode cX3_init 63 = .ok (.newarray .int, 2) := by decide +kernel
theorem dX3_init_65 : decode cX3_init 65 = .ok (.putfield 31, 3) := by decide +kernel
theorem dX3_init_68 : decode cX3_init 68 = .ok (.aload_n 0, 1) := by decide +kernel
theorem dX3_init_69 : decode cX3_init 69 = .ok (.bipush 15, 2) := by decide +kernel
theorem dX3_init_71 : decode cX3_init 71 = .ok (.newarray .int, 2) := by decide +kernel
theorem dX3_init_73 : decode cX3_init 73 = .ok (.putfield 34, 3) := by decide +kernel
theorem dX3_init_76 : decode cX3_init 76 = .ok (.aload_n 0, 1) := by decide +kernel
theorem dX3_init_77 : decode cX3_init 77 = .ok (.iconst 5, 1) := by decide +kernel
theorem dX3_init_78 : decode cX3_init 78 = .ok (.newarray .int, 2) := by decide +kernel
theorem dX3_init_80 : decode cX3_init 80 = .ok (.putfield 37, 3) := by decide +kernel
theorem dX3_init_83 : decode cX3_init 83 = .ok (.aload_n 0, 1) := by decide +kernel
theorem dX3_init_84 : decode cX3_init 84 = .ok (.bipush 120, 2) := by decide +kernel
theorem dX3_init_86 : decode cX3_init 86 = .ok (.newarray .int, 2) := by decide +kernel
theorem dX3_init_88 : decode cX3_init 88 = .ok (.putfield 40, 3) := by decide +kernel
theorem dX3_init_91 : decode cX3_init 91 = .ok (.aload_n 0, 1) := by decide +kernel
theorem dX3_init_92 : decode cX3_init 92 = .ok (.bipush 6, 2) := by decide +kernel
theorem dX3_init_94 : decode cX3_init 94 = .ok (.newarray .int, 2) := by decide +kernel
theorem dX3_init_96 : decode cX3_init 96 = .ok (.putfield 43, 3) := by decide +kernel
theorem dX3_init_99 : decode cX3_init 99 = .ok (.aload_n 0, 1) := by decide +kernel
theorem dX3_init_100 : decode cX3_init 100 = .ok (.bipush 6, 2) := by decide +kernel
theorem dX3_init_102 : decode cX3_init 102 = .ok (.newarray .int, 2) := by decide +kernel
theorem dX3_init_104 : decode cX3_init 104 = .ok (.putfield 46, 3) := by decide +kernel
theorem dX3_init_107 : decode cX3_init 107 = .ok (.aload_n 0, 1) := by decide +kernel
theorem dX3_init_108 : decode cX3_init 108 = .ok (.bipush 6, 2) := by decide +kernel
theorem dX3_init_110 : decode cX3_init 110 = .ok (.newarray .int, 2) := by decide +kernel
theorem dX3_init_112 : decode cX3_init 112 = .ok (.putfield 49, 3) := by decide +kernel
theorem dX3_init_115 : decode cX3_init 115 = .ok (.aload_n 0, 1) := by decide +kernel
theorem dX3_init_116 : decode cX3_init 116 = .ok (.bipush 48, 2) := by decide +kernel
theorem dX3_init_118 : decode cX3_init 118 = .ok (.newarray .int, 2) := by decide +kernel
theorem dX3_init_120 : decode cX3_init 120 = .ok (.putfield 52, 3) := by decide +kernel
theorem dX3_init_123 : decode cX3_init 123 = .ok (.aload_n 0, 1) := by decide +kernel
theorem dX3_init_124 : decode cX3_init 124 = .ok (.bipush 12, 2) := by decide +kernel
theorem dX3_init_126 : decode cX3_init 126 = .ok (.newarray .int, 2) := by decide +kernel
theorem dX3_init_128 : decode cX3_init 128 = .ok (.putfield 55, 3) := by decide +kernel
theorem dX3_init_131 : decode cX3_init 131 = .ok (.aload_n 0, 1) := by decide +kernel
theorem dX3_init_132 : decode cX3_init 132 = .ok (.bipush 12, 2) := by decide +kernel
theorem dX3_init_134 : decode cX3_init 134 = .ok (.newarray .int, 2) := by decide +kernel
theorem dX3_init_136 : decode cX3_init 136 = .ok (.putfield 58, 3) := by decide +kernel
theorem dX3_init_139 : decode cX3_init 139 = .ok (.aload_n 0, 1) := by decide +kernel
theorem dX3_init_140 : decode cX3_init 140 = .ok (.bipush 12, 2) := by decide +kernel
theorem dX3_init_142 : decode cX3_init 142 = .ok (.newarray .int, 2) := by decide +kernel
theorem dX3_init_144 : decode cX3_init 144 = .ok (.putfield 61, 3) := by decide +kernel
theorem dX3_init_147 : decode cX3_init 147 = .ok (.aload_n 0, 1) := by decide +kernel
theorem dX3_init_148 : decode cX3_init 148 = .ok (.bipush 12, 2) := by decide +kernel
theorem dX3_init_150 : decode cX3_init 150 = .ok (.newarray .int, 2) := by decide +kernel
theorem dX3_init_152 : decode cX3_init 152 = .ok (.putfield 64, 3) := by decide +kernel
theorem dX3_init_155 : decode cX3_init 155 = .ok (.aload_n 0, 1) := by decide +kernel
theorem dX3_init_156 : decode cX3_init 156 = .ok (.iconst 5, 1) := by decide +kernel
theorem dX3_init_157 : decode cX3_init 157 = .ok (.newarray .int, 2) := by decide +kernel
theorem dX3_init_159 : decode cX3_init 159 = .ok (.putfield 67, 3) := by decide +kernel
theorem dX3_init_162 : decode cX3_init 162 = .ok (.iconst 0, 1) := by decide +kernel
theorem dX3_init_163 : decode cX3_init 163 = .ok (.istore_n 1, 1) := by decide +kernel
theorem dX3_init_164 : decode cX3_init 164 = .ok (.iload_n 1, 1) := by decide +kernel
theorem dX3_init_165 : decode cX3_init 165 = .ok (.bipush 15, 2) := by decide +kernel
theorem dX3_init_167 : decode cX3_init 167 = .ok (.if_icmp .ge 22, 3) := by decide +kernel
theorem dX3_init_170 : decode cX3_init 170 = .ok (.aload_n 0, 1) := by decide +kernel
theorem dX3_init_171 : decode cX3_init 171 = .ok (.getfield 34, 3) := by decide +kernel
theorem dX3_init_174 : decode cX3_init 174 = .ok (.iload_n 1, 1) := by decide +kernel
theorem dX3_init_175 : decode cX3_init 175 = .ok (.sipush 250, 3) := by decide +kernel
theorem dX3_init_178 : decode cX3_init 178 = .ok (.iload_n 1, 1) := by decide +kernel
theorem dX3_init_179 : decode cX3_init 179 = .ok (.iconst 5, 1) := by decide +kernel
theorem dX3_init_180 : decode cX3_init 180 = .ok (.irem, 1) := by decide +kernel
theorem dX3_init_181 : decode cX3_init 181 = .ok (.imul, 1) := by decide +kernel
theorem dX3_init_182 : decode cX3_init 182 = .ok (.iastore, 1) := by decide +kernel
theorem dX3_init_183 : decode cX3_init 183 = .ok (.iinc 1 1, 3) := by decide +kernel
theorem dX3_init_186 : decode cX3_init 186 = .ok (.goto (-22), 3) := by decide +kernel
theorem dX3_init_189 : decode cX3_init 189 = .ok (.aload_n 0, 1) := by decide +kernel
theorem dX3_init_190 : decode cX3_init 190 = .ok (.bipush 10, 2) := by decide +kernel
theorem dX3_init_192 : decode cX3_init 192 = .ok (.putfield 70, 3) := by decide +kernel
theorem dX3_init_195 : decode cX3_init 195 = .ok (.return_, 1) := by decide +kernel
theorem dX3_in_0 : decode cX3_in 0 = .ok (.lload_n 0, 1) := by decide +kernel
theorem dX3_in_1 : decode cX3_in 1 = .ok (.lload_n 2, 1) := by decide +kernel
theorem dX3_in_2 : decode cX3_in 2 = .ok (.lcmp, 1) := by decide +kernel
theorem dX3_in_3 : decode cX3_in 3 = .ok (.ifCond .lt 14, 3) := by decide +kernel
theorem dX3_in_6 : decode cX3_in 6 = .ok (.lload_n 0, 1) := by decide +kernel
theorem dX3_in_7 : decode cX3_in 7 = .ok (.lload 4, 2) := by decide +kernel
theorem dX3_in_9 : decode cX3_in 9 = .ok (.lcmp, 1) := by decide +kernel
theorem dX3_in_10 : decode cX3_in 10 = .ok (.ifCond .gt 7, 3) := by decide +kernel
theorem dX3_in_13 : decode cX3_in 13 = .ok (.iconst 1, 1) := by decide +kernel
theorem dX3_in_14 : decode cX3_in 14 = .ok (.goto 4, 3) := by decide +kernel
theorem dX3_in_17 : decode cX3_in 17 = .ok (.iconst 0, 1) := by decide +kernel
theorem dX3_in_18 : decode cX3_in 18 = .ok (.ireturn, 1) := by decide +kernel
theorem dX3_floor_0 : decode cX3_floor 0 = .ok (.iload_n 0, 1) := by decide +kernel
theorem dX3_floor_1 : decode cX3_floor 1 = .ok (.iload_n 1, 1) := by decide +kernel
theorem dX3_floor_2 : decode cX3_floor 2 = .ok (.idiv, 1) := by decide +kernel
theorem dX3_floor_3 : decode cX3_floor 3 = .ok (.istore_n 2, 1) := by decide +kernel
theorem dX3_floor_4 : decode cX3_floor 4 = .ok (.iload_n 0, 1) := by decide +kernel
theorem dX3_floor_5 : decode cX3_floor 5 = .ok (.ifCond .ge 15, 3) := by decide +kernel
theorem dX3_floor_8 : decode cX3_floor 8 = .ok (.iload_n 0, 1) := by decide +kernel
theorem dX3_floor_9 : decode cX3_floor 9 = .ok (.iload_n 1, 1) := by decide +kernel
theorem dX3_floor_10 : decode cX3_floor 10 = .ok (.irem, 1) := by decide +kernel
theorem dX3_floor_11 : decode cX3_floor 11 = .ok (.ifCond .eq 9, 3) := by decide +kernel
theorem dX3_floor_14 : decode cX3_floor 14 = .ok (.iload_n 2, 1) := by decide +kernel
theorem dX3_floor_15 : decode cX3_floor 15 = .ok (.iconst 1, 1) := by decide +kernel
theorem dX3_floor_16 : decode cX3_floor 16 = .ok (.isub, 1) := by decide +kernel
theorem dX3_floor_17 : decode cX3_floor 17 = .ok (.goto 4, 3) := by decide +kernel
theorem dX3_floor_20 : decode cX3_floor 20 = .ok (.iload_n 2, 1) := by decide +kernel
theorem dX3_floor_21 : decode cX3_floor 21 = .ok (.ireturn, 1) := by decide +kernel
theorem dX3_isLayer_0 : decode cX3_isLayer 0 = .ok (.iload_n 1, 1) := by decide +kernel
theorem dX3_isLayer_1 : decode cX3_isLayer 1 = .ok (.i2l, 1) := by decide +kernel
theorem dX3_isLayer_2 : decode cX3_isLayer 2 = .ok (.lconst 0, 1) := by decide +kernel
theorem dX3_isLayer_3 : decode cX3_isLayer 3 = .ok (.aload_n 0, 1) := by decide +kernel
theorem dX3_isLayer_4 : decode cX3_isLayer 4 = .ok (.getfield 74, 3) := by decide +kernel
theorem dX3_isLayer_7 : decode cX3_isLayer 7 = .ok (.iconst 1, 1) := by decide +kernel
theorem dX3_isLayer_8 : decode cX3_isLayer 8 = .ok (.isub, 1) := by decide +kernel
theorem dX3_isLayer_9 : decode cX3_isLayer 9 = .ok (.i2l, 1) := by decide +kernel
theorem dX3_isLayer_10 : decode cX3_isLayer 10 = .ok (.invokestatic 77, 3) := by decide +kernel
theorem dX3_isLayer_13 : decode cX3_isLayer 13 = .ok (.ireturn, 1) := by decide +kernel
theorem dX3_layer_0 : decode cX3_layer 0 = .ok (.iload_n 1, 1) := by decide +kernel
theorem dX3_layer_1 : decode cX3_layer 1 = .ok (.i2l, 1) := by decide +kernel
theorem dX3_layer_2 : decode cX3_layer 2 = .ok (.lconst 1, 1) := by decide +kernel
theorem dX3_layer_3 : decode cX3_layer 3 = .ok (.ldc2_w 81, 3) := by decide +kernel
theorem dX3_layer_6 : decode cX3_layer 6 = .ok (.invokestatic 77, 3) := by decide +kernel
theorem dX3_layer_9 : decode cX3_layer 9 = .ok (.ifCond .eq 40, 3) := by decide +kernel
theorem dX3_layer_12 : decode cX3_layer 12 = .ok (.iload_n 2, 1) := by decide +kernel
theorem dX3_layer_13 : decode cX3_layer 13 = .ok (.i2l, 1) := by decide +kernel
theorem dX3_layer_14 : decode cX3_layer 14 = .ok (.lconst 1, 1) := by decide +kernel
theorem dX3_layer_15 : decode cX3_layer 15 = .ok (.ldc2_w 83, 3) := by decide +kernel
theorem dX3_layer_18 : decode cX3_layer 18 = .ok (.invokestatic 77, 3) := by decide +kernel
theorem dX3_layer_21 : decode cX3_layer 21 = .ok (.ifCond .eq 28, 3) := by decide +kernel
theorem dX3_layer_24 : decode cX3_layer 24 = .ok (.iload_n 3, 1) := by decide +kernel
theorem dX3_layer_25 : decode cX3_layer 25 = .ok (.i2l, 1) := by decide +kernel
theorem dX3_layer_26 : decode cX3_layer 26 = .ok (.lconst 1, 1) := by decide +kernel
theorem dX3_layer_27 : decode cX3_layer 27 = .ok (.ldc2_w 83, 3) := by decide +kernel
theorem dX3_layer_30 : decode cX3_layer 30 = .ok (.invokestatic 77, 3) := by decide +kernel
theorem dX3_layer_33 : decode cX3_layer 33 = .ok (.ifCond .eq 16, 3) := by decide +kernel
theorem dX3_layer_36 : decode cX3_layer 36 = .ok (.iload 4, 2) := by decide +kernel
theorem dX3_layer_38 : decode cX3_layer 38 = .ok (.i2l, 1) := by decide +kernel
theorem dX3_layer_39 : decode cX3_layer 39 = .ok (.lconst 0, 1) := by decide +kernel
theorem dX3_layer_40 : decode cX3_layer 40 = .ok (.ldc2_w 85, 3) := by decide +kernel
theorem dX3_layer_43 : decode cX3_layer 43 = .ok (.invokestatic 77, 3) := by decide +kernel
theorem dX3_layer_46 : decode cX3_layer 46 = .ok (.ifCond .ne 6, 3) := by decide +kernel
theorem dX3_layer_49 : decode cX3_layer 49 = .ok (.bipush (-102), 2) := by decide +kernel
theorem dX3_layer_51 : decode cX3_layer 51 = .ok (.ireturn, 1) := by decide +kernel
theorem dX3_layer_52 : decode cX3_layer 52 = .ok (.aload_n 0, 1) := by decide +kernel
theorem dX3_layer_53 : decode cX3_layer 53 = .ok (.getfield 74, 3) := by decide +kernel
theorem dX3_layer_56 : decode cX3_layer 56 = .ok (.bipush 6, 2) := by decide +kernel
theorem dX3_layer_58 : decode cX3_layer 58 = .ok (.if_icmp .ne 6, 3) := by decide +kernel
theorem dX3_layer_61 : decode cX3_layer 61 = .ok (.bipush (-104), 2) := by decide +kernel
theorem dX3_layer_63 : decode cX3_layer 63 = .ok (.ireturn, 1) := by decide +kernel
theorem dX3_layer_64 : decode cX3_layer 64 = .ok (.aload_n 0, 1) := by decide +kernel
theorem dX3_layer_65 : decode cX3_layer 65 = .ok (.getfield 7, 3) := by decide +kernel
theorem dX3_layer_68 : decode cX3_layer 68 = .ok (.aload_n 0, 1) := by decide +kernel
theorem dX3_layer_69 : decode cX3_layer 69 = .ok (.getfield 74, 3) := by decide +kernel
theorem dX3_layer_72 : decode cX3_layer 72 = .ok (.iload_n 1, 1) := by decide +kernel
theorem dX3_layer_73 : decode cX3_layer 73 = .ok (.iastore, 1) := by decide +kernel
theorem dX3_layer_74 : decode cX3_layer 74 = .ok (.aload_n 0, 1) := by decide +kernel
theorem dX3_layer_75 : decode cX3_layer 75 = .ok (.getfield 13, 3) := by decide +kernel
theorem dX3_layer_78 : decode cX3_layer 78 = .ok (.aload_n 0, 1) := by decide +kernel
theorem dX3_layer_79 : decode cX3_layer 79 = .ok (.getfield 74, 3) := by decide +kernel
theorem dX3_layer_82 : decode cX3_layer 82 = .ok (.iload_n 2, 1) := by decide +kernel
theorem dX3_layer_83 : decode cX3_layer 83 = .ok (.iastore, 1) := by decide +kernel
theorem dX3_layer_84 : decode cX3_layer 84 = .ok (.aload_n 0, 1) := by decide +kernel
theorem dX3_layer_85 : decode cX3_layer 85 = .ok (.getfield 16, 3) := by decide +kernel
theorem dX3_layer_88 : decode cX3_layer 88 = .ok (.aload_n 0, 1) := by decide +kernel
theorem dX3_layer_89 : decode cX3_layer 89 = .ok (.getfield 74, 3) := by decide +kernel
theorem dX3_layer_92 : decode cX3_layer 92 = .ok (.iload_n 3, 1) := by decide +kernel
theorem dX3_layer_93 : decode cX3_layer 93 = .ok (.iastore, 1) := by decide +kernel
theorem dX3_layer_94 : decode cX3_layer 94 = .ok (.aload_n 0, 1) := by decide +kernel
theorem dX3_layer_95 : decode cX3_layer 95 = .ok (.getfield 19, 3) := by decide +kernel
theorem dX3_layer_98 : decode cX3_layer 98 = .ok (.aload_n 0, 1) := by decide +kernel
theorem dX3_layer_99 : decode cX3_layer 99 = .ok (.getfield 74, 3) := by decide +kernel
theorem dX3_layer_102 : decode cX3_layer 102 = .ok (.iload 4, 2) := by decide +kernel
theorem dX3_layer_104 : decode cX3_layer 104 = .ok (.iastore, 1) := by decide +kernel
theorem dX3_layer_105 : decode cX3_layer 105 = .ok (.aload_n 0, 1) := by decide +kernel
theorem dX3_layer_106 : decode cX3_layer 106 = .ok (.getfield 22, 3) := by decide +kernel
theorem dX3_layer_109 : decode cX3_layer 109 = .ok (.aload_n 0, 1) := by decide +kernel
theorem dX3_layer_110 : decode cX3_layer 110 = .ok (.getfield 74, 3) := by decide +kernel
theorem dX3_layer_113 : decode cX3_layer 113 = .ok (.iconst 0, 1) := by decide +kernel
theorem dX3_layer_114 : decode cX3_layer 114 = .ok (.iastore, 1) := by decide +kernel
theorem dX3_layer_115 : decode cX3_layer 115 = .ok (.aload_n 0, 1) := by decide +kernel
theorem dX3_layer_116 : decode cX3_layer 116 = .ok (.getfield 25, 3) := by decide +kernel
theorem dX3_layer_119 : decode cX3_layer 119 = .ok (.aload_n 0, 1) := by decide +kernel
theorem dX3_layer_120 : decode cX3_layer 120 = .ok (.getfield 74, 3) := by decide +kernel
theorem dX3_layer_123 : decode cX3_layer 123 = .ok (.iconst 0, 1) := by decide +kernel
theorem dX3_layer_124 : decode cX3_layer 124 = .ok (.iastore, 1) := by decide +kernel
theorem dX3_layer_125 : decode cX3_layer 125 = .ok (.aload_n 0, 1) := by decide +kernel
theorem dX3_layer_126 : decode cX3_layer 126 = .ok (.getfield 28, 3) := by decide +kernel
theorem dX3_layer_129 : decode cX3_layer 129 = .ok (.aload_n 0, 1) := by decide +kernel
theorem dX3_layer_130 : decode cX3_layer 130 = .ok (.getfield 74, 3) := by decide +kernel
theorem dX3_layer_133 : decode cX3_layer 133 = .ok (.iconst 0, 1) := by decide +kernel
theorem dX3_layer_134 : decode cX3_layer 134 = .ok (.iastore, 1) := by decide +kernel
theorem dX3_layer_135 : decode cX3_layer 135 = .ok (.aload_n 0, 1) := by decide +kernel
theorem dX3_layer_136 : decode cX3_layer 136 = .ok (.getfield 31, 3) := by decide +kernel
theorem dX3_layer_139 : decode cX3_layer 139 = .ok (.aload_n 0, 1) := by decide +kernel
theorem dX3_layer_140 : decode cX3_layer 140 = .ok (.getfield 74, 3) := by decide +kernel
theorem dX3_layer_143 : decode cX3_layer 143 = .ok (.iconst 0, 1) := by decide +kernel
theorem dX3_layer_144 : decode cX3_layer 144 = .ok (.iastore, 1) := by decide +kernel
theorem dX3_layer_145 : decode cX3_layer 145 = .ok (.aload_n 0, 1) := by decide +kernel
theorem dX3_layer_146 : decode cX3_layer 146 = .ok (.dup, 1) := by decide +kernel
theorem dX3_layer_147 : decode cX3_layer 147 = .ok (.getfield 74, 3) := by decide +kernel
theorem dX3_layer_150 : decode cX3_layer 150 = .ok (.iconst 1, 1) := by decide +kernel
theorem dX3_layer_151 : decode cX3_layer 151 = .ok (.iadd, 1) := by decide +kernel
theorem dX3_layer_152 : decode cX3_layer 152 = .ok (.putfield 74, 3) := by decide +kernel
theorem dX3_layer_155 : decode cX3_layer 155 = .ok (.aload_n 0, 1) := by decide +kernel
theorem dX3_layer_156 : decode cX3_layer 156 = .ok (.getfield 74, 3) := by decide +kernel
theorem dX3_layer_159 : decode cX3_layer 159 = .ok (.ireturn, 1) := by decide +kernel
theorem dX3_clear_0 : decode cX3_clear 0 = .ok (.aload_n 0, 1) := by decide +kernel
theorem dX3_clear_1 : decode cX3_clear 1 = .ok (.getfield 74, 3) := by decide +kernel
theorem dX3_clear_4 : decode cX3_clear 4 = .ok (.istore_n 1, 1) := by decide +kernel
theorem dX3_clear_5 : decode cX3_clear 5 = .ok (.aload_n 0, 1) := by decide +kernel
theorem dX3_clear_6 : decode cX3_clear 6 = .ok (.iconst 0, 1) := by decide +kernel
theorem dX3_clear_7 : decode cX3_clear 7 = .ok (.putfield 74, 3) := by decide +kernel
theorem dX3_clear_10 : decode cX3_clear 10 = .ok (.aload_n 0, 1) := by decide +kernel
theorem dX3_clear_11 : decode cX3_clear 11 = .ok (.iconst 0, 1) := by decide +kernel
theorem dX3_clear_12 : decode cX3_clear 12 = .ok (.putfield 87, 3) := by decide +kernel
theorem dX3_clear_15 : decode cX3_clear 15 = .ok (.iconst 0, 1) := by decide +kernel
theorem dX3_clear_16 : decode cX3_clear 16 = .ok (.istore_n 2, 1) := by decide +kernel
theorem dX3_clear_17 : decode cX3_clear 17 = .ok (.iload_n 2, 1) := by decide +kernel
theorem dX3_clear_18 : decode cX3_clear 18 = .ok (.iconst 5, 1) := by decide +kernel
theorem dX3_clear_19 : decode cX3_clear 19 = .ok (.if_icmp .ge 16, 3) := by decide +kernel
theorem dX3_clear_22 : decode cX3_clear 22 = .ok (.aload_n 0, 1) := by decide +kernel
theorem dX3_clear_23 : decode cX3_clear 23 = .ok (.getfield 37, 3) := by decide +kernel
theorem dX3_clear_26 : decode cX3_clear 26 = .ok (.iload_n 2, 1) := by decide +kernel
theorem dX3_clear_27 : decode cX3_clear 27 = .ok (.iconst 0, 1) := by decide +kernel
theorem dX3_clear_28 : decode cX3_clear 28 = .ok (.iastore, 1) := by decide +kernel
theorem dX3_clear_29 : decode cX3_clear 29 = .ok (.iinc 2 1, 3) := by decide +kernel
theorem dX3_clear_32 : decode cX3_clear 32 = .ok (.goto (-15), 3) := by decide +kernel
theorem dX3_clear_35 : decode cX3_clear 35 = .ok (.iload_n 1, 1) := by decide +kernel
theorem dX3_clear_36 : decode cX3_clear 36 = .ok (.ireturn, 1) := by decide +kernel
theorem dX3_corner_0 : decode cX3_corner 0 = .ok (.iload_n 1, 1) := by decide +kernel
theorem dX3_corner_1 : decode cX3_corner 1 = .ok (.i2l, 1) := by decide +kernel
theorem dX3_corner_2 : decode cX3_corner 2 = .ok (.lconst 0, 1) := by decide +kernel
theorem dX3_corner_3 : decode cX3_corner 3 = .ok (.ldc2_w 85, 3) := by decide +kernel
theorem dX3_corner_6 : decode cX3_corner 6 = .ok (.invokestatic 77, 3) := by decide +kernel
theorem dX3_corner_9 : decode cX3_corner 9 = .ok (.ifCond .eq 15, 3) := by decide +kernel
theorem dX3_corner_12 : decode cX3_corner 12 = .ok (.iload_n 2, 1) := by decide +kernel
theorem dX3_corner_13 : decode cX3_corner 13 = .ok (.i2l, 1) := by decide +kernel
theorem dX3_corner_14 : decode cX3_corner 14 = .ok (.lconst 0, 1) := by decide +kernel
theorem dX3_corner_15 : decode cX3_corner 15 = .ok (.ldc2_w 90, 3) := by decide +kernel
theorem dX3_corner_18 : decode cX3_corner 18 = .ok (.invokestatic 77, 3) := by decide +kernel
theorem dX3_corner_21 : decode cX3_corner 21 = .ok (.ifCond .ne 6, 3) := by decide +kernel
theorem dX3_corner_24 : decode cX3_corner 24 = .ok (.bipush (-101), 2) := by decide +kernel
theorem dX3_corner_26 : decode cX3_corner 26 = .ok (.ireturn, 1) := by decide +kernel
theorem dX3_corner_27 : decode cX3_corner 27 = .ok (.iconst 5, 1) := by decide +kernel
theorem dX3_corner_28 : decode cX3_corner 28 = .ok (.iload_n 1, 1) := by decide +kernel
theorem dX3_corner_29 : decode cX3_corner 29 = .ok (.imul, 1) := by decide +kernel
theorem dX3_corner_30 : decode cX3_corner 30 = .ok (.iload_n 2, 1) := by decide +kernel
theorem dX3_corner_31 : decode cX3_corner 31 = .ok (.iadd, 1) := by decide +kernel
theorem dX3_corner_32 : decode cX3_corner 32 = .ok (.istore 4, 2) := by decide +kernel
theorem dX3_corner_34 : decode cX3_corner 34 = .ok (.iload_n 3, 1) := by decide +kernel
theorem dX3_corner_35 : decode cX3_corner 35 = .ok (.i2l, 1) := by decide +kernel
theorem dX3_corner_36 : decode cX3_corner 36 = .ok (.iload_n 2, 1) := by decide +kernel
theorem dX3_corner_37 : decode cX3_corner 37 = .ok (.ifCond .ne 7, 3) := by decide +kernel
theorem dX3_corner_40 : decode cX3_corner 40 = .ok (.lconst 0, 1) := by decide +kernel
theorem dX3_corner_41 : decode cX3_corner 41 = .ok (.goto 13, 3) := by decide +kernel
theorem dX3_corner_44 : decode cX3_corner 44 = .ok (.aload_n 0, 1) := by decide +kernel
theorem dX3_corner_45 : decode cX3_corner 45 = .ok (.getfield 34, 3) := by decide +kernel
theorem dX3_corner_48 : decode cX3_corner 48 = .ok (.iload 4, 2) := by decide +kernel
theorem dX3_corner_50 : decode cX3_corner 50 = .ok (.iconst 1, 1) := by decide +kernel
theorem dX3_corner_51 : decode cX3_corner 51 = .ok (.isub, 1) := by decide +kernel
theorem dX3_corner_52 : decode cX3_corner 52 = .ok (.iaload, 1) := by decide +kernel
theorem dX3_corner_53 : decode cX3_corner 53 = .ok (.i2l, 1) := by decide +kernel
theorem dX3_corner_54 : decode cX3_corner 54 = .ok (.iload_n 2, 1) := by decide +kernel
theorem dX3_corner_55 : decode cX3_corner 55 = .ok (.iconst 4, 1) := by decide +kernel
theorem dX3_corner_56 : decode cX3_corner 56 = .ok (.if_icmp .ne 9, 3) := by decide +kernel
theorem dX3_corner_59 : decode cX3_corner 59 = .ok (.ldc2_w 81, 3) := by decide +kernel
theorem dX3_corner_62 : decode cX3_corner 62 = .ok (.goto 13, 3) := by decide +kernel
theorem dX3_corner_65 : decode cX3_corner 65 = .ok (.aload_n 0, 1) := by decide +kernel
theorem dX3_corner_66 : decode cX3_corner 66 = .ok (.getfield 34, 3) := by decide +kernel
theorem dX3_corner_69 : decode cX3_corner 69 = .ok (.iload 4, 2) := by decide +kernel
theorem dX3_corner_71 : decode cX3_corner 71 = .ok (.iconst 1, 1) := by decide +kernel
theorem dX3_corner_72 : decode cX3_corner 72 = .ok (.iadd, 1) := by decide +kernel
theorem dX3_corner_73 : decode cX3_corner 73 = .ok (.iaload, 1) := by decide +kernel
theorem dX3_corner_74 : decode cX3_corner 74 = .ok (.i2l, 1) := by decide +kernel
theorem dX3_corner_75 : decode cX3_corner 75 = .ok (.invokestatic 77, 3) := by decide +kernel
theorem dX3_corner_78 : decode cX3_corner 78 = .ok (.ifCond .ne 6, 3) := by decide +kernel
theorem dX3_corner_81 : decode cX3_corner 81 = .ok (.bipush (-102), 2) := by decide +kernel
theorem dX3_corner_83 : decode cX3_corner 83 = .ok (.ireturn, 1) := by decide +kernel
theorem dX3_corner_84 : decode cX3_corner 84 = .ok (.aload_n 0, 1) := by decide +kernel
theorem dX3_corner_85 : decode cX3_corner 85 = .ok (.getfield 34, 3) := by decide +kernel
theorem dX3_corner_88 : decode cX3_corner 88 = .ok (.iload 4, 2) := by decide +kernel
theorem dX3_corner_90 : decode cX3_corner 90 = .ok (.iaload, 1) := by decide +kernel
theorem dX3_corner_91 : decode cX3_corner 91 = .ok (.istore 5, 2) := by decide +kernel
theorem dX3_corner_93 : decode cX3_corner 93 = .ok (.aload_n 0, 1) := by decide +kernel
theorem dX3_corner_94 : decode cX3_corner 94 = .ok (.getfield 34, 3) := by decide +kernel
theorem dX3_corner_97 : decode cX3_corner 97 = .ok (.iload 4, 2) := by decide +kernel
theorem dX3_corner_99 : decode cX3_corner 99 = .ok (.iload_n 3, 1) := by decide +kernel
theorem dX3_corner_100 : decode cX3_corner 100 = .ok (.iastore, 1) := by decide +kernel
theorem dX3_corner_101 : decode cX3_corner 101 = .ok (.iload 5, 2) := by decide +kernel
theorem dX3_corner_103 : decode cX3_corner 103 = .ok (.ireturn, 1) := by decide +kernel
theorem dX3_water_0 : decode cX3_water 0 = .ok (.aload_n 0, 1) := by decide +kernel
theorem dX3_water_1 : decode cX3_water 1 = .ok (.iload_n 1, 1) := by decide +kernel
theorem dX3_water_2 : decode cX3_water 2 = .ok (.invokevirtual 92, 3) := by decide +kernel
theorem dX3_water_5 : decode cX3_water 5 = .ok (.ifCond .ne 6, 3) := by decide +kernel
theorem dX3_water_8 : decode cX3_water 8 = .ok (.bipush (-101), 2) := by decide +kernel
theorem dX3_water_10 : decode cX3_water 10 = .ok (.ireturn, 1) := by decide +kernel
theorem dX3_water_11 : decode cX3_water 11 = .ok (.iload_n 2, 1) := by decide +kernel
theorem dX3_water_12 : decode cX3_water 12 = .ok (.i2l, 1) := by decide +kernel
theorem dX3_water_13 : decode cX3_water 13 = .ok (.lconst 0, 1) := by decide +kernel
theorem dX3_water_14 : decode cX3_water 14 = .ok (.aload_n 0, 1) := by decide +kernel
theorem dX3_water_15 : decode cX3_water 15 = .ok (.getfield 7, 3) := by decide +kernel
theorem dX3_water_18 : decode cX3_water 18 = .ok (.iload_n 1, 1) := by decide +kernel
theorem dX3_water_19 : decode cX3_water 19 = .ok (.iaload, 1) := by decide +kernel
theorem dX3_water_20 : decode cX3_water 20 = .ok (.i2l, 1) := by decide +kernel
theorem dX3_water_21 : decode cX3_water 21 = .ok (.invokestatic 77, 3) := by decide +kernel
theorem dX3_water_24 : decode cX3_water 24 = .ok (.ifCond .ne 6, 3) := by decide +kernel
theorem dX3_water_27 : decode cX3_water 27 = .ok (.bipush (-102), 2) := by decide +kernel
theorem dX3_water_29 : decode cX3_water 29 = .ok (.ireturn, 1) := by decide +kernel
theorem dX3_water_30 : decode cX3_water 30 = .ok (.aload_n 0, 1) := by decide +kernel
theorem dX3_water_31 : decode cX3_water 31 = .ok (.getfield 22, 3) := by decide +kernel
theorem dX3_water_34 : decode cX3_water 34 = .ok (.iload_n 1, 1) := by decide +kernel
theorem dX3_water_35 : decode cX3_water 35 = .ok (.iaload, 1) := by decide +kernel
theorem dX3_water_36 : decode cX3_water 36 = .ok (.istore_n 3, 1) := by decide +kernel
theorem dX3_water_37 : decode cX3_water 37 = .ok (.aload_n 0, 1) := by decide +kernel
theorem dX3_water_38 : decode cX3_water 38 = .ok (.getfield 22, 3) := by decide +kernel
theorem dX3_water_41 : decode cX3_water 41 = .ok (.iload_n 1, 1) := by decide +kernel
theorem dX3_water_42 : decode cX3_water 42 = .ok (.iload_n 2, 1) := by decide +kernel
theorem dX3_water_43 : decode cX3_water 43 = .ok (.iastore, 1) := by decide +kernel
theorem dX3_water_44 : decode cX3_water 44 = .ok (.aload_n 0, 1) := by decide +kernel
theorem dX3_water_45 : decode cX3_water 45 = .ok (.getfield 37, 3) := by decide +kernel
theorem dX3_water_48 : decode cX3_water 48 = .ok (.iconst 4, 1) := by decide +kernel
theorem dX3_water_49 : decode cX3_water 49 = .ok (.dup2, 1) := by decide +kernel
theorem dX3_water_50 : decode cX3_water 50 = .ok (.iaload, 1) := by decide +kernel
theorem dX3_water_51 : decode cX3_water 51 = .ok (.iload_n 2, 1) := by decide +kernel
theorem dX3_water_52 : decode cX3_water 52 = .ok (.iload_n 3, 1) := by decide +kernel
theorem dX3_water_53 : decode cX3_water 53 = .ok (.isub, 1) := by decide +kernel
theorem dX3_water_54 : decode cX3_water 54 = .ok (.iadd, 1) := by decide +kernel
theorem dX3_water_55 : decode cX3_water 55 = .ok (.iastore, 1) := by decide +kernel
theorem dX3_water_56 : decode cX3_water 56 = .ok (.iload_n 3, 1) := by decide +kernel
theorem dX3_water_57 : decode cX3_water 57 = .ok (.ireturn, 1) := by decide +kernel
theorem dX3_damp_0 : decode cX3_damp 0 = .ok (.iconst 4, 1) := by decide +kernel
theorem dX3_damp_1 : decode cX3_damp 1 = .ok (.aload_n 0, 1) := by decide +kernel
theorem dX3_damp_2 : decode cX3_damp 2 = .ok (.getfield 22, 3) := by decide +kernel
theorem dX3_damp_5 : decode cX3_damp 5 = .ok (.iload_n 1, 1) := by decide +kernel
theorem dX3_damp_6 : decode cX3_damp 6 = .ok (.iaload, 1) := by decide +kernel
theorem dX3_damp_7 : decode cX3_damp 7 = .ok (.imul, 1) := by decide +kernel
theorem dX3_damp_8 : decode cX3_damp 8 = .ok (.istore_n 2, 1) := by decide +kernel
theorem dX3_damp_9 : decode cX3_damp 9 = .ok (.iload_n 2, 1) := by decide +kernel
theorem dX3_damp_10 : decode cX3_damp 10 = .ok (.aload_n 0, 1) := by decide +kernel
theorem dX3_damp_11 : decode cX3_damp 11 = .ok (.getfield 7, 3) := by decide +kernel
theorem dX3_damp_14 : decode cX3_damp 14 = .ok (.iload_n 1, 1) := by decide +kernel
theorem dX3_damp_15 : decode cX3_damp 15 = .ok (.iaload, 1) := by decide +kernel
theorem dX3_damp_16 : decode cX3_damp 16 = .ok (.idiv, 1) := by decide +kernel
theorem dX3_damp_17 : decode cX3_damp 17 = .ok (.istore_n 3, 1) := by decide +kernel
theorem dX3_damp_18 : decode cX3_damp 18 = .ok (.iconst 5, 1) := by decide +kernel
theorem dX3_damp_19 : decode cX3_damp 19 = .ok (.aload_n 0, 1) := by decide +kernel
theorem dX3_damp_20 : decode cX3_damp 20 = .ok (.getfield 19, 3) := by decide +kernel
theorem dX3_damp_23 : decode cX3_damp 23 = .ok (.iload_n 1, 1) := by decide +kernel
theorem dX3_damp_24 : decode cX3_damp 24 = .ok (.iaload, 1) := by decide +kernel
theorem dX3_damp_25 : decode cX3_damp 25 = .ok (.imul, 1) := by decide +kernel
theorem dX3_damp_26 : decode cX3_damp 26 = .ok (.iload_n 3, 1) := by decide +kernel
theorem dX3_damp_27 : decode cX3_damp 27 = .ok (.iadd, 1) := by decide +kernel
theorem dX3_damp_28 : decode cX3_damp 28 = .ok (.istore 4, 2) := by decide +kernel
theorem dX3_damp_30 : decode cX3_damp 30 = .ok (.aload_n 0, 1) := by decide +kernel
theorem dX3_damp_31 : decode cX3_damp 31 = .ok (.getfield 34, 3) := by decide +kernel
theorem dX3_damp_34 : decode cX3_damp 34 = .ok (.iload 4, 2) := by decide +kernel
theorem dX3_damp_36 : decode cX3_damp 36 = .ok (.iaload, 1) := by decide +kernel
theorem dX3_damp_37 : decode cX3_damp 37 = .ok (.iload_n 3, 1) := by decide +kernel
theorem dX3_damp_38 : decode cX3_damp 38 = .ok (.iconst 4, 1) := by decide +kernel
theorem dX3_damp_39 : decode cX3_damp 39 = .ok (.if_icmp .ge 41, 3) := by decide +kernel
theorem dX3_damp_42 : decode cX3_damp 42 = .ok (.aload_n 0, 1) := by decide +kernel
theorem dX3_damp_43 : decode cX3_damp 43 = .ok (.getfield 34, 3) := by decide +kernel
theorem dX3_damp_46 : decode cX3_damp 46 = .ok (.iload 4, 2) := by decide +kernel
theorem dX3_damp_48 : decode cX3_damp 48 = .ok (.iconst 1, 1) := by decide +kernel
theorem dX3_damp_49 : decode cX3_damp 49 = .ok (.iadd, 1) := by decide +kernel
theorem dX3_damp_50 : decode cX3_damp 50 = .ok (.iaload, 1) := by decide +kernel
theorem dX3_damp_51 : decode cX3_damp 51 = .ok (.aload_n 0, 1) := by decide +kernel
theorem dX3_damp_52 : decode cX3_damp 52 = .ok (.getfield 34, 3) := by decide +kernel
theorem dX3_damp_55 : decode cX3_damp 55 = .ok (.iload 4, 2) := by decide +kernel
theorem dX3_damp_57 : decode cX3_damp 57 = .ok (.iaload, 1) := by decide +kernel
theorem dX3_damp_58 : decode cX3_damp 58 = .ok (.isub, 1) := by decide +kernel
theorem dX3_damp_59 : decode cX3_damp 59 = .ok (.iload_n 2, 1) := by decide +kernel
theorem dX3_damp_60 : decode cX3_damp 60 = .ok (.iload_n 3, 1) := by decide +kernel
theorem dX3_damp_61 : decode cX3_damp 61 = .ok (.aload_n 0, 1) := by decide +kernel
theorem dX3_damp_62 : decode cX3_damp 62 = .ok (.getfield 7, 3) := by decide +kernel
theorem dX3_damp_65 : decode cX3_damp 65 = .ok (.iload_n 1, 1) := by decide +kernel
theorem dX3_damp_66 : decode cX3_damp 66 = .ok (.iaload, 1) := by decide +kernel
theorem dX3_damp_67 : decode cX3_damp 67 = .ok (.imul, 1) := by decide +kernel
theorem dX3_damp_68 : decode cX3_damp 68 = .ok (.isub, 1) := by decide +kernel
theorem dX3_damp_69 : decode cX3_damp 69 = .ok (.imul, 1) := by decide +kernel
theorem dX3_damp_70 : decode cX3_damp 70 = .ok (.aload_n 0, 1) := by decide +kernel
theorem dX3_damp_71 : decode cX3_damp 71 = .ok (.getfield 7, 3) := by decide +kernel
theorem dX3_damp_74 : decode cX3_damp 74 = .ok (.iload_n 1, 1) := by decide +kernel
theorem dX3_damp_75 : decode cX3_damp 75 = .ok (.iaload, 1) := by decide +kernel
theorem dX3_damp_76 : decode cX3_damp 76 = .ok (.idiv, 1) := by decide +kernel
theorem dX3_damp_77 : decode cX3_damp 77 = .ok (.goto 4, 3) := by decide +kernel
theorem dX3_damp_80 : decode cX3_damp 80 = .ok (.iconst 0, 1) := by decide +kernel
theorem dX3_damp_81 : decode cX3_damp 81 = .ok (.iadd, 1) := by decide +kernel
theorem dX3_damp_82 : decode cX3_damp 82 = .ok (.ireturn, 1) := by decide +kernel
theorem dX3_aboutOf_0 : decode cX3_aboutOf 0 = .ok (.iload_n 2, 1) := by decide +kernel
theorem dX3_aboutOf_1 : decode cX3_aboutOf 1 = .ok (.tableswitch 113 0 8 #[51, 58, 65, 72, 79, 86, 92, 99, 106], 51) := by decide +kernel
theorem dX3_aboutOf_52 : decode cX3_aboutOf 52 = .ok (.aload_n 0, 1) := by decide +kernel
theorem dX3_aboutOf_53 : decode cX3_aboutOf 53 = .ok (.getfield 7, 3) := by decide +kernel
theorem dX3_aboutOf_56 : decode cX3_aboutOf 56 = .ok (.iload_n 1, 1) := by decide +kernel
theorem dX3_aboutOf_57 : decode cX3_aboutOf 57 = .ok (.iaload, 1) := by decide +kernel
theorem dX3_aboutOf_58 : decode cX3_aboutOf 58 = .ok (.ireturn, 1) := by decide +kernel
theorem dX3_aboutOf_59 : decode cX3_aboutOf 59 = .ok (.aload_n 0, 1) := by decide +kernel
theorem dX3_aboutOf_60 : decode cX3_aboutOf 60 = .ok (.getfield 13, 3) := by decide +kernel
theorem dX3_aboutOf_63 : decode cX3_aboutOf 63 = .ok (.iload_n 1, 1) := by decide +kernel
theorem dX3_aboutOf_64 : decode cX3_aboutOf 64 = .ok (.iaload, 1) := by decide +kernel
theorem dX3_aboutOf_65 : decode cX3_aboutOf 65 = .ok (.ireturn, 1) := by decide +kernel
theorem dX3_aboutOf_66 : decode cX3_aboutOf 66 = .ok (.aload_n 0, 1) := by decide +kernel
theorem dX3_aboutOf_67 : decode cX3_aboutOf 67 = .ok (.getfield 16, 3) := by decide +kernel
theorem dX3_aboutOf_70 : decode cX3_aboutOf 70 = .ok (.iload_n 1, 1) := by decide +kernel
theorem dX3_aboutOf_71 : decode cX3_aboutOf 71 = .ok (.iaload, 1) := by decide +kernel
theorem dX3_aboutOf_72 : decode cX3_aboutOf 72 = .ok (.ireturn, 1) := by decide +kernel
theorem dX3_aboutOf_73 : decode cX3_aboutOf 73 = .ok (.aload_n 0, 1) := by decide +kernel
theorem dX3_aboutOf_74 : decode cX3_aboutOf 74 = .ok (.getfield 19, 3) := by decide +kernel
theorem dX3_aboutOf_77 : decode cX3_aboutOf 77 = .ok (.iload_n 1, 1) := by decide +kernel
theorem dX3_aboutOf_78 : decode cX3_aboutOf 78 = .ok (.iaload, 1) := by decide +kernel
theorem dX3_aboutOf_79 : decode cX3_aboutOf 79 = .ok (.ireturn, 1) := by decide +kernel
theorem dX3_aboutOf_80 : decode cX3_aboutOf 80 = .ok (.aload_n 0, 1) := by decide +kernel
theorem dX3_aboutOf_81 : decode cX3_aboutOf 81 = .ok (.getfield 22, 3) := by decide +kernel
theorem dX3_aboutOf_84 : decode cX3_aboutOf 84 = .ok (.iload_n 1, 1) := by decide +kernel
theorem dX3_aboutOf_85 : decode cX3_aboutOf 85 = .ok (.iaload, 1) := by decide +kernel
theorem dX3_aboutOf_86 : decode cX3_aboutOf 86 = .ok (.ireturn, 1) := by decide +kernel
theorem dX3_aboutOf_87 : decode cX3_aboutOf 87 = .ok (.aload_n 0, 1) := by decide +kernel
theorem dX3_aboutOf_88 : decode cX3_aboutOf 88 = .ok (.iload_n 1, 1) := by decide +kernel
theorem dX3_aboutOf_89 : decode cX3_aboutOf 89 = .ok (.invokevirtual 96, 3) := by decide +kernel
theorem dX3_aboutOf_92 : decode cX3_aboutOf 92 = .ok (.ireturn, 1) := by decide +kernel
theorem dX3_aboutOf_93 : decode cX3_aboutOf 93 = .ok (.aload_n 0, 1) := by decide +kernel
theorem dX3_aboutOf_94 : decode cX3_aboutOf 94 = .ok (.getfield 25, 3) := by decide +kernel
theorem dX3_aboutOf_97 : decode cX3_aboutOf 97 = .ok (.iload_n 1, 1) := by decide +kernel
theorem dX3_aboutOf_98 : decode cX3_aboutOf 98 = .ok (.iaload, 1) := by decide +kernel
theorem dX3_aboutOf_99 : decode cX3_aboutOf 99 = .ok (.ireturn, 1) := by decide +kernel
theorem dX3_aboutOf_100 : decode cX3_aboutOf 100 = .ok (.aload_n 0, 1) := by decide +kernel
theorem dX3_aboutOf_101 : decode cX3_aboutOf 101 = .ok (.getfield 28, 3) := by decide +kernel
theorem dX3_aboutOf_104 : decode cX3_aboutOf 104 = .ok (.iload_n 1, 1) := by decide +kernel
theorem dX3_aboutOf_105 : decode cX3_aboutOf 105 = .ok (.iaload, 1) := by decide +kernel
theorem dX3_aboutOf_106 : decode cX3_aboutOf 106 = .ok (.ireturn, 1) := by decide +kernel
theorem dX3_aboutOf_107 : decode cX3_aboutOf 107 = .ok (.aload_n 0, 1) := by decide +kernel
theorem dX3_aboutOf_108 : decode cX3_aboutOf 108 = .ok (.getfield 31, 3) := by decide +kernel
theorem dX3_aboutOf_111 : decode cX3_aboutOf 111 = .ok (.iload_n 1, 1) := by decide +kernel
theorem dX3_aboutOf_112 : decode cX3_aboutOf 112 = .ok (.iaload, 1) := by decide +kernel
theorem dX3_aboutOf_113 : decode cX3_aboutOf 113 = .ok (.ireturn, 1) := by decide +kernel
theorem dX3_aboutOf_114 : decode cX3_aboutOf 114 = .ok (.bipush (-102), 2) := by decide +kernel
theorem dX3_aboutOf_116 : decode cX3_aboutOf 116 = .ok (.ireturn, 1) := by decide +kernel
theorem dX3_about_0 : decode cX3_about 0 = .ok (.aload_n 0, 1) := by decide +kernel
theorem dX3_about_1 : decode cX3_about 1 = .ok (.iload_n 1, 1) := by decide +kernel
theorem dX3_about_2 : decode cX3_about 2 = .ok (.invokevirtual 92, 3) := by decide +kernel
theorem dX3_about_5 : decode cX3_about 5 = .ok (.ifCond .eq 12, 3) := by decide +kernel
theorem dX3_about_8 : decode cX3_about 8 = .ok (.aload_n 0, 1) := by decide +kernel
theorem dX3_about_9 : decode cX3_about 9 = .ok (.iload_n 1, 1) := by decide +kernel
theorem dX3_about_10 : decode cX3_about 10 = .ok (.iload_n 2, 1) := by decide +kernel
theorem dX3_about_11 : decode cX3_about 11 = .ok (.invokevirtual 100, 3) := by decide +kernel
theorem dX3_about_14 : decode cX3_about 14 = .ok (.goto 5, 3) := by decide +kernel
theorem dX3_about_17 : decode cX3_about 17 = .ok (.bipush (-101), 2) := by decide +kernel
theorem dX3_about_19 : decode cX3_about 19 = .ok (.ireturn, 1) := by decide +kernel
theorem dX3_hour_0 : decode cX3_hour 0 = .ok (.iload_n 1, 1) := by decide +kernel
theorem dX3_hour_1 : decode cX3_hour 1 = .ok (.i2l, 1) := by decide +kernel
theorem dX3_hour_2 : decode cX3_hour 2 = .ok (.lconst 0, 1) := by decide +kernel
theorem dX3_hour_3 : decode cX3_hour 3 = .ok (.ldc2_w 81, 3) := by decide +kernel
theorem dX3_hour_6 : decode cX3_hour 6 = .ok (.invokestatic 77, 3) := by decide +kernel
theorem dX3_hour_9 : decode cX3_hour 9 = .ok (.ifCond .eq 57, 3) := by decide +kernel
theorem dX3_hour_12 : decode cX3_hour 12 = .ok (.iload_n 2, 1) := by decide +kernel
theorem dX3_hour_13 : decode cX3_hour 13 = .ok (.i2l, 1) := by decide +kernel
theorem dX3_hour_14 : decode cX3_hour 14 = .ok (.ldc2_w 104, 3) := by decide +kernel
theorem dX3_hour_17 : decode cX3_hour 17 = .ok (.ldc2_w 83, 3) := by decide +kernel
theorem dX3_hour_20 : decode cX3_hour 20 = .ok (.invokestatic 77, 3) := by decide +kernel
theorem dX3_hour_23 : decode cX3_hour 23 = .ok (.ifCond .eq 43, 3) := by decide +kernel
theorem dX3_hour_26 : decode cX3_hour 26 = .ok (.iload_n 3, 1) := by decide +kernel
theorem dX3_hour_27 : decode cX3_hour 27 = .ok (.i2l, 1) := by decide +kernel
theorem dX3_hour_28 : decode cX3_hour 28 = .ok (.lconst 0, 1) := by decide +kernel
theorem dX3_hour_29 : decode cX3_hour 29 = .ok (.ldc2_w 106, 3) := by decide +kernel
theorem dX3_hour_32 : decode cX3_hour 32 = .ok (.invokestatic 77, 3) := by decide +kernel
theorem dX3_hour_35 : decode cX3_hour 35 = .ok (.ifCond .eq 31, 3) := by decide +kernel
theorem dX3_hour_38 : decode cX3_hour 38 = .ok (.iload 4, 2) := by decide +kernel
theorem dX3_hour_40 : decode cX3_hour 40 = .ok (.i2l, 1) := by decide +kernel
theorem dX3_hour_41 : decode cX3_hour 41 = .ok (.lconst 0, 1) := by decide +kernel
theorem dX3_hour_42 : decode cX3_hour 42 = .ok (.ldc2_w 81, 3) := by decide +kernel
theorem dX3_hour_45 : decode cX3_hour 45 = .ok (.invokestatic 77, 3) := by decide +kernel
theorem dX3_hour_48 : decode cX3_hour 48 = .ok (.ifCond .eq 18, 3) := by decide +kernel
theorem dX3_hour_51 : decode cX3_hour 51 = .ok (.iload 5, 2) := by decide +kernel
theorem dX3_hour_53 : decode cX3_hour 53 = .ok (.i2l, 1) := by decide +kernel
theorem dX3_hour_54 : decode cX3_hour 54 = .ok (.ldc2_w 104, 3) := by decide +kernel
theorem dX3_hour_57 : decode cX3_hour 57 = .ok (.ldc2_w 83, 3) := by decide +kernel
theorem dX3_hour_60 : decode cX3_hour 60 = .ok (.invokestatic 77, 3) := by decide +kernel
theorem dX3_hour_63 : decode cX3_hour 63 = .ok (.ifCond .ne 6, 3) := by decide +kernel
theorem dX3_hour_66 : decode cX3_hour 66 = .ok (.bipush (-102), 2) := by decide +kernel
theorem dX3_hour_68 : decode cX3_hour 68 = .ok (.ireturn, 1) := by decide +kernel
theorem dX3_hour_69 : decode cX3_hour 69 = .ok (.aload_n 0, 1) := by decide +kernel
theorem dX3_hour_70 : decode cX3_hour 70 = .ok (.getfield 108, 3) := by decide +kernel
theorem dX3_hour_73 : decode cX3_hour 73 = .ok (.bipush 24, 2) := by decide +kernel
theorem dX3_hour_75 : decode cX3_hour 75 = .ok (.if_icmp .ne 6, 3) := by decide +kernel
theorem dX3_hour_78 : decode cX3_hour 78 = .ok (.bipush (-104), 2) := by decide +kernel
theorem dX3_hour_80 : decode cX3_hour 80 = .ok (.ireturn, 1) := by decide +kernel
theorem dX3_hour_81 : decode cX3_hour 81 = .ok (.aload_n 0, 1) := by decide +kernel
theorem dX3_hour_82 : decode cX3_hour 82 = .ok (.getfield 40, 3) := by decide +kernel
theorem dX3_hour_85 : decode cX3_hour 85 = .ok (.iconst 5, 1) := by decide +kernel
theorem dX3_hour_86 : decode cX3_hour 86 = .ok (.aload_n 0, 1) := by decide +kernel
theorem dX3_hour_87 : decode cX3_hour 87 = .ok (.getfield 108, 3) := by decide +kernel
theorem dX3_hour_90 : decode cX3_hour 90 = .ok (.imul, 1) := by decide +kernel
theorem dX3_hour_91 : decode cX3_hour 91 = .ok (.iload_n 1, 1) := by decide +kernel
theorem dX3_hour_92 : decode cX3_hour 92 = .ok (.iastore, 1) := by decide +kernel
theorem dX3_hour_93 : decode cX3_hour 93 = .ok (.aload_n 0, 1) := by decide +kernel
theorem dX3_hour_94 : decode cX3_hour 94 = .ok (.getfield 40, 3) := by decide +kernel
theorem dX3_hour_97 : decode cX3_hour 97 = .ok (.iconst 5, 1) := by decide +kernel
theorem dX3_hour_98 : decode cX3_hour 98 = .ok (.aload_n 0, 1) := by decide +kernel
theorem dX3_hour_99 : decode cX3_hour 99 = .ok (.getfield 108, 3) := by decide +kernel
theorem dX3_hour_102 : decode cX3_hour 102 = .ok (.imul, 1) := by decide +kernel
theorem dX3_hour_103 : decode cX3_hour 103 = .ok (.iconst 1, 1) := by decide +kernel
theorem dX3_hour_104 : decode cX3_hour 104 = .ok (.iadd, 1) := by decide +kernel
theorem dX3_hour_105 : decode cX3_hour 105 = .ok (.iload_n 2, 1) := by decide +kernel
theorem dX3_hour_106 : decode cX3_hour 106 = .ok (.iastore, 1) := by decide +kernel
theorem dX3_hour_107 : decode cX3_hour 107 = .ok (.aload_n 0, 1) := by decide +kernel
theorem dX3_hour_108 : decode cX3_hour 108 = .ok (.getfield 40, 3) := by decide +kernel
theorem dX3_hour_111 : decode cX3_hour 111 = .ok (.iconst 5, 1) := by decide +kernel
theorem dX3_hour_112 : decode cX3_hour 112 = .ok (.aload_n 0, 1) := by decide +kernel
theorem dX3_hour_113 : decode cX3_hour 113 = .ok (.getfield 108, 3) := by decide +kernel
theorem dX3_hour_116 : decode cX3_hour 116 = .ok (.imul, 1) := by decide +kernel
theorem dX3_hour_117 : decode cX3_hour 117 = .ok (.iconst 2, 1) := by decide +kernel
theorem dX3_hour_118 : decode cX3_hour 118 = .ok (.iadd, 1) := by decide +kernel
theorem dX3_hour_119 : decode cX3_hour 119 = .ok (.iload_n 3, 1) := by decide +kernel
theorem dX3_hour_120 : decode cX3_hour 120 = .ok (.iastore, 1) := by decide +kernel
theorem dX3_hour_121 : decode cX3_hour 121 = .ok (.aload_n 0, 1) := by decide +kernel
theorem dX3_hour_122 : decode cX3_hour 122 = .ok (.getfield 40, 3) := by decide +kernel
theorem dX3_hour_125 : decode cX3_hour 125 = .ok (.iconst 5, 1) := by decide +kernel
theorem dX3_hour_126 : decode cX3_hour 126 = .ok (.aload_n 0, 1) := by decide +kernel
theorem dX3_hour_127 : decode cX3_hour 127 = .ok (.getfield 108, 3) := by decide +kernel
theorem dX3_hour_130 : decode cX3_hour 130 = .ok (.imul, 1) := by decide +kernel
theorem dX3_hour_131 : decode cX3_hour 131 = .ok (.iconst 3, 1) := by decide +kernel
theorem dX3_hour_132 : decode cX3_hour 132 = .ok (.iadd, 1) := by decide +kernel
theorem dX3_hour_133 : decode cX3_hour 133 = .ok (.iload 4, 2) := by decide +kernel
theorem dX3_hour_135 : decode cX3_hour 135 = .ok (.iastore, 1) := by decide +kernel
theorem dX3_hour_136 : decode cX3_hour 136 = .ok (.aload_n 0, 1) := by decide +kernel
theorem dX3_hour_137 : decode cX3_hour 137 = .ok (.getfield 40, 3) := by decide +kernel
theorem dX3_hour_140 : decode cX3_hour 140 = .ok (.iconst 5, 1) := by decide +kernel
theorem dX3_hour_141 : decode cX3_hour 141 = .ok (.aload_n 0, 1) := by decide +kernel
theorem dX3_hour_142 : decode cX3_hour 142 = .ok (.getfield 108, 3) := by decide +kernel
theorem dX3_hour_145 : decode cX3_hour 145 = .ok (.imul, 1) := by decide +kernel
theorem dX3_hour_146 : decode cX3_hour 146 = .ok (.iconst 4, 1) := by decide +kernel
theorem dX3_hour_147 : decode cX3_hour 147 = .ok (.iadd, 1) := by decide +kernel
theorem dX3_hour_148 : decode cX3_hour 148 = .ok (.iload 5, 2) := by decide +kernel
theorem dX3_hour_150 : decode cX3_hour 150 = .ok (.iastore, 1) := by decide +kernel
theorem dX3_hour_151 : decode cX3_hour 151 = .ok (.aload_n 0, 1) := by decide +kernel
theorem dX3_hour_152 : decode cX3_hour 152 = .ok (.dup, 1) := by decide +kernel
theorem dX3_hour_153 : decode cX3_hour 153 = .ok (.getfield 108, 3) := by decide +kernel
theorem dX3_hour_156 : decode cX3_hour 156 = .ok (.iconst 1, 1) := by decide +kernel
theorem dX3_hour_157 : decode cX3_hour 157 = .ok (.iadd, 1) := by decide +kernel
theorem dX3_hour_158 : decode cX3_hour 158 = .ok (.putfield 108, 3) := by decide +kernel
theorem dX3_hour_161 : decode cX3_hour 161 = .ok (.aload_n 0, 1) := by decide +kernel
theorem dX3_hour_162 : decode cX3_hour 162 = .ok (.getfield 108, 3) := by decide +kernel
theorem dX3_hour_165 : decode cX3_hour 165 = .ok (.ireturn, 1) := by decide +kernel
theorem dX3_fair_0 : decode cX3_fair 0 = .ok (.aload_n 0, 1) := by decide +kernel
theorem dX3_fair_1 : decode cX3_fair 1 = .ok (.getfield 108, 3) := by decide +kernel
theorem dX3_fair_4 : decode cX3_fair 4 = .ok (.istore_n 1, 1) := by decide +kernel
theorem dX3_fair_5 : decode cX3_fair 5 = .ok (.aload_n 0, 1) := by decide +kernel
theorem dX3_fair_6 : decode cX3_fair 6 = .ok (.iconst 0, 1) := by decide +kernel
theorem dX3_fair_7 : decode cX3_fair 7 = .ok (.putfield 108, 3) := by decide +kernel
theorem dX3_fair_10 : decode cX3_fair 10 = .ok (.aload_n 0, 1) := by decide +kernel
theorem dX3_fair_11 : decode cX3_fair 11 = .ok (.iconst 0, 1) := by decide +kernel
theorem dX3_fair_12 : decode cX3_fair 12 = .ok (.putfield 111, 3) := by decide +kernel
theorem dX3_fair_15 : decode cX3_fair 15 = .ok (.iload_n 1, 1) := by decide +kernel
theorem dX3_fair_16 : decode cX3_fair 16 = .ok (.ireturn, 1) := by decide +kernel
theorem dX3_share_0 : decode cX3_share 0 = .ok (.iload_n 1, 1) := by decide +kernel
theorem dX3_share_1 : decode cX3_share 1 = .ok (.i2l, 1) := by decide +kernel
theorem dX3_share_2 : decode cX3_share 2 = .ok (.lconst 0, 1) := by decide +kernel
theorem dX3_share_3 : decode cX3_share 3 = .ok (.ldc2_w 114, 3) := by decide +kernel
theorem dX3_share_6 : decode cX3_share 6 = .ok (.invokestatic 77, 3) := by decide +kernel
theorem dX3_share_9 : decode cX3_share 9 = .ok (.ifCond .ne 6, 3) := by decide +kernel
theorem dX3_share_12 : decode cX3_share 12 = .ok (.bipush (-102), 2) := by decide +kernel
theorem dX3_share_14 : decode cX3_share 14 = .ok (.ireturn, 1) := by decide +kernel
theorem dX3_share_15 : decode cX3_share 15 = .ok (.aload_n 0, 1) := by decide +kernel
theorem dX3_share_16 : decode cX3_share 16 = .ok (.getfield 70, 3) := by decide +kernel
theorem dX3_share_19 : decode cX3_share 19 = .ok (.istore_n 2, 1) := by decide +kernel
theorem dX3_share_20 : decode cX3_share 20 = .ok (.aload_n 0, 1) := by decide +kernel
theorem dX3_share_21 : decode cX3_share 21 = .ok (.iload_n 1, 1) := by decide +kernel
theorem dX3_share_22 : decode cX3_share 22 = .ok (.putfield 70, 3) := by decide +kernel
theorem dX3_share_25 : decode cX3_share 25 = .ok (.iload_n 2, 1) := by decide +kernel
theorem dX3_share_26 : decode cX3_share 26 = .ok (.ireturn, 1) := by decide +kernel
theorem dX3_heatOf_0 : decode cX3_heatOf 0 = .ok (.iconst 0, 1) := by decide +kernel
theorem dX3_heatOf_1 : decode cX3_heatOf 1 = .ok (.istore_n 2, 1) := by decide +kernel
theorem dX3_heatOf_2 : decode cX3_heatOf 2 = .ok (.iconst 0, 1) := by decide +kernel
theorem dX3_heatOf_3 : decode cX3_heatOf 3 = .ok (.istore_n 3, 1) := by decide +kernel
theorem dX3_heatOf_4 : decode cX3_heatOf 4 = .ok (.iload_n 3, 1) := by decide +kernel
theorem dX3_heatOf_5 : decode cX3_heatOf 5 = .ok (.iload_n 1, 1) := by decide +kernel
theorem dX3_heatOf_6 : decode cX3_heatOf 6 = .ok (.if_icmp .ge 18, 3) := by decide +kernel
theorem dX3_heatOf_9 : decode cX3_heatOf 9 = .ok (.iload_n 2, 1) := by decide +kernel
theorem dX3_heatOf_10 : decode cX3_heatOf 10 = .ok (.aload_n 0, 1) := by decide +kernel
theorem dX3_heatOf_11 : decode cX3_heatOf 11 = .ok (.getfield 16, 3) := by decide +kernel
theorem dX3_heatOf_14 : decode cX3_heatOf 14 = .ok (.iload_n 3, 1) := by decide +kernel
theorem dX3_heatOf_15 : decode cX3_heatOf 15 = .ok (.iaload, 1) := by decide +kernel
theorem dX3_heatOf_16 : decode cX3_heatOf 16 = .ok (.iadd, 1) := by decide +kernel
theorem dX3_heatOf_17 : decode cX3_heatOf 17 = .ok (.istore_n 2, 1) := by decide +kernel
theorem dX3_heatOf_18 : decode cX3_heatOf 18 = .ok (.iinc 3 1, 3) := by decide +kernel
theorem dX3_heatOf_21 : decode cX3_heatOf 21 = .ok (.goto (-17), 3) := by decide +kernel
theorem dX3_heatOf_24 : decode cX3_heatOf 24 = .ok (.iload_n 2, 1) := by decide +kernel
theorem dX3_heatOf_25 : decode cX3_heatOf 25 = .ok (.ireturn, 1) := by decide +kernel
theorem dX3_cross_0 : decode cX3_cross 0 = .ok (.iload_n 1, 1) := by decide +kernel
theorem dX3_cross_1 : decode cX3_cross 1 = .ok (.ifCond .ne 12, 3) := by decide +kernel
theorem dX3_cross_4 : decode cX3_cross 4 = .ok (.aload_n 0, 1) := by decide +kernel
theorem dX3_cross_5 : decode cX3_cross 5 = .ok (.getfield 40, 3) := by decide +kernel
theorem dX3_cross_8 : decode cX3_cross 8 = .ok (.iload_n 2, 1) := by decide +kernel
theorem dX3_cross_9 : decode cX3_cross 9 = .ok (.iaload, 1) := by decide +kernel
theorem dX3_cross_10 : decode cX3_cross 10 = .ok (.goto 10, 3) := by decide +kernel
theorem dX3_cross_13 : decode cX3_cross 13 = .ok (.aload_n 0, 1) := by decide +kernel
theorem dX3_cross_14 : decode cX3_cross 14 = .ok (.iload_n 1, 1) := by decide +kernel
theorem dX3_cross_15 : decode cX3_cross 15 = .ok (.iconst 1, 1) := by decide +kernel
theorem dX3_cross_16 : decode cX3_cross 16 = .ok (.isub, 1) := by decide +kernel
theorem dX3_cross_17 : decode cX3_cross 17 = .ok (.invokevirtual 96, 3) := by decide +kernel
theorem dX3_cross_20 : decode cX3_cross 20 = .ok (.istore_n 3, 1) := by decide +kernel
theorem dX3_cross_21 : decode cX3_cross 21 = .ok (.iload_n 1, 1) := by decide +kernel
theorem dX3_cross_22 : decode cX3_cross 22 = .ok (.aload_n 0, 1) := by decide +kernel
theorem dX3_cross_23 : decode cX3_cross 23 = .ok (.getfield 74, 3) := by decide +kernel
theorem dX3_cross_26 : decode cX3_cross 26 = .ok (.if_icmp .ne 14, 3) := by decide +kernel
theorem dX3_cross_29 : decode cX3_cross 29 = .ok (.aload_n 0, 1) := by decide +kernel
theorem dX3_cross_30 : decode cX3_cross 30 = .ok (.getfield 40, 3) := by decide +kernel
theorem dX3_cross_33 : decode cX3_cross 33 = .ok (.iload_n 2, 1) := by decide +kernel
theorem dX3_cross_34 : decode cX3_cross 34 = .ok (.iconst 3, 1) := by decide +kernel
theorem dX3_cross_35 : decode cX3_cross 35 = .ok (.iadd, 1) := by decide +kernel
theorem dX3_cross_36 : decode cX3_cross 36 = .ok (.iaload, 1) := by decide +kernel
theorem dX3_cross_37 : decode cX3_cross 37 = .ok (.goto 8, 3) := by decide +kernel
theorem dX3_cross_40 : decode cX3_cross 40 = .ok (.aload_n 0, 1) := by decide +kernel
theorem dX3_cross_41 : decode cX3_cross 41 = .ok (.iload_n 1, 1) := by decide +kernel
theorem dX3_cross_42 : decode cX3_cross 42 = .ok (.invokevirtual 96, 3) := by decide +kernel
theorem dX3_cross_45 : decode cX3_cross 45 = .ok (.istore 4, 2) := by decide +kernel
theorem dX3_cross_47 : decode cX3_cross 47 = .ok (.iload_n 3, 1) := by decide +kernel
theorem dX3_cross_48 : decode cX3_cross 48 = .ok (.iload 4, 2) := by decide +kernel
theorem dX3_cross_50 : decode cX3_cross 50 = .ok (.isub, 1) := by decide +kernel
theorem dX3_cross_51 : decode cX3_cross 51 = .ok (.iload_n 1, 1) := by decide +kernel
theorem dX3_cross_52 : decode cX3_cross 52 = .ok (.ifCond .ne 7, 3) := by decide +kernel
theorem dX3_cross_55 : decode cX3_cross 55 = .ok (.iconst 1, 1) := by decide +kernel
theorem dX3_cross_56 : decode cX3_cross 56 = .ok (.goto 11, 3) := by decide +kernel
theorem dX3_cross_59 : decode cX3_cross 59 = .ok (.aload_n 0, 1) := by decide +kernel
theorem dX3_cross_60 : decode cX3_cross 60 = .ok (.getfield 13, 3) := by decide +kernel
theorem dX3_cross_63 : decode cX3_cross 63 = .ok (.iload_n 1, 1) := by decide +kernel
theorem dX3_cross_64 : decode cX3_cross 64 = .ok (.iconst 1, 1) := by decide +kernel
theorem dX3_cross_65 : decode cX3_cross 65 = .ok (.isub, 1) := by decide +kernel
theorem dX3_cross_66 : decode cX3_cross 66 = .ok (.iaload, 1) := by decide +kernel
theorem dX3_cross_67 : decode cX3_cross 67 = .ok (.iload_n 1, 1) := by decide +kernel
theorem dX3_cross_68 : decode cX3_cross 68 = .ok (.aload_n 0, 1) := by decide +kernel
theorem dX3_cross_69 : decode cX3_cross 69 = .ok (.getfield 74, 3) := by decide +kernel
theorem dX3_cross_72 : decode cX3_cross 72 = .ok (.if_icmp .ne 7, 3) := by decide +kernel
theorem dX3_cross_75 : decode cX3_cross 75 = .ok (.iconst 1, 1) := by decide +kernel
theorem dX3_cross_76 : decode cX3_cross 76 = .ok (.goto 9, 3) := by decide +kernel
theorem dX3_cross_79 : decode cX3_cross 79 = .ok (.aload_n 0, 1) := by decide +kernel
theorem dX3_cross_80 : decode cX3_cross 80 = .ok (.getfield 13, 3) := by decide +kernel
theorem dX3_cross_83 : decode cX3_cross 83 = .ok (.iload_n 1, 1) := by decide +kernel
theorem dX3_cross_84 : decode cX3_cross 84 = .ok (.iaload, 1) := by decide +kernel
theorem dX3_cross_85 : decode cX3_cross 85 = .ok (.iadd, 1) := by decide +kernel
theorem dX3_cross_86 : decode cX3_cross 86 = .ok (.idiv, 1) := by decide +kernel
theorem dX3_cross_87 : decode cX3_cross 87 = .ok (.istore 5, 2) := by decide +kernel
theorem dX3_cross_89 : decode cX3_cross 89 = .ok (.iload 5, 2) := by decide +kernel
theorem dX3_cross_91 : decode cX3_cross 91 = .ok (.ifCond .le 84, 3) := by decide +kernel
theorem dX3_cross_94 : decode cX3_cross 94 = .ok (.iload_n 1, 1) := by decide +kernel
theorem dX3_cross_95 : decode cX3_cross 95 = .ok (.ifCond .le 27, 3) := by decide +kernel
theorem dX3_cross_98 : decode cX3_cross 98 = .ok (.iload 5, 2) := by decide +kernel
theorem dX3_cross_100 : decode cX3_cross 100 = .ok (.aload_n 0, 1) := by decide +kernel
theorem dX3_cross_101 : decode cX3_cross 101 = .ok (.getfield 22, 3) := by decide +kernel
theorem dX3_cross_104 : decode cX3_cross 104 = .ok (.iload_n 1, 1) := by decide +kernel
theorem dX3_cross_105 : decode cX3_cross 105 = .ok (.iconst 1, 1) := by decide +kernel
theorem dX3_cross_106 : decode cX3_cross 106 = .ok (.isub, 1) := by decide +kernel
theorem dX3_cross_107 : decode cX3_cross 107 = .ok (.iaload, 1) := by decide +kernel
theorem dX3_cross_108 : decode cX3_cross 108 = .ok (.if_icmp .le 14, 3) := by decide +kernel
theorem dX3_cross_111 : decode cX3_cross 111 = .ok (.aload_n 0, 1) := by decide +kernel
theorem dX3_cross_112 : decode cX3_cross 112 = .ok (.getfield 22, 3) := by decide +kernel
theorem dX3_cross_115 : decode cX3_cross 115 = .ok (.iload_n 1, 1) := by decide +kernel
theorem dX3_cross_116 : decode cX3_cross 116 = .ok (.iconst 1, 1) := by decide +kernel
theorem dX3_cross_117 : decode cX3_cross 117 = .ok (.isub, 1) := by decide +kernel
theorem dX3_cross_118 : decode cX3_cross 118 = .ok (.iaload, 1) := by decide +kernel
theorem dX3_cross_119 : decode cX3_cross 119 = .ok (.goto 5, 3) := by decide +kernel
theorem dX3_cross_122 : decode cX3_cross 122 = .ok (.iload 5, 2) := by decide +kernel
theorem dX3_cross_124 : decode cX3_cross 124 = .ok (.istore 5, 2) := by decide +kernel
theorem dX3_cross_126 : decode cX3_cross 126 = .ok (.iload_n 1, 1) := by decide +kernel
theorem dX3_cross_127 : decode cX3_cross 127 = .ok (.aload_n 0, 1) := by decide +kernel
theorem dX3_cross_128 : decode cX3_cross 128 = .ok (.getfield 74, 3) := by decide +kernel
theorem dX3_cross_131 : decode cX3_cross 131 = .ok (.if_icmp .ge 37, 3) := by decide +kernel
theorem dX3_cross_134 : decode cX3_cross 134 = .ok (.iload 5, 2) := by decide +kernel
theorem dX3_cross_136 : decode cX3_cross 136 = .ok (.aload_n 0, 1) := by decide +kernel
theorem dX3_cross_137 : decode cX3_cross 137 = .ok (.getfield 7, 3) := by decide +kernel
theorem dX3_cross_140 : decode cX3_cross 140 = .ok (.iload_n 1, 1) := by decide +kernel
theorem dX3_cross_141 : decode cX3_cross 141 = .ok (.iaload, 1) := by decide +kernel
theorem dX3_cross_142 : decode cX3_cross 142 = .ok (.aload_n 0, 1) := by decide +kernel
theorem dX3_cross_143 : decode cX3_cross 143 = .ok (.getfield 22, 3) := by decide +kernel
theorem dX3_cross_146 : decode cX3_cross 146 = .ok (.iload_n 1, 1) := by decide +kernel
theorem dX3_cross_147 : decode cX3_cross 147 = .ok (.iaload, 1) := by decide +kernel
theorem dX3_cross_148 : decode cX3_cross 148 = .ok (.isub, 1) := by decide +kernel
theorem dX3_cross_149 : decode cX3_cross 149 = .ok (.if_icmp .le 19, 3) := by decide +kernel
theorem dX3_cross_152 : decode cX3_cross 152 = .ok (.aload_n 0, 1) := by decide +kernel
theorem dX3_cross_153 : decode cX3_cross 153 = .ok (.getfield 7, 3) := by decide +kernel
theorem dX3_cross_156 : decode cX3_cross 156 = .ok (.iload_n 1, 1) := by decide +kernel
theorem dX3_cross_157 : decode cX3_cross 157 = .ok (.iaload, 1) := by decide +kernel
theorem dX3_cross_158 : decode cX3_cross 158 = .ok (.aload_n 0, 1) := by decide +kernel
theorem dX3_cross_159 : decode cX3_cross 159 = .ok (.getfield 22, 3) := by decide +kernel
theorem dX3_cross_162 : decode cX3_cross 162 = .ok (.iload_n 1, 1) := by decide +kernel
theorem dX3_cross_163 : decode cX3_cross 163 = .ok (.iaload, 1) := by decide +kernel
theorem dX3_cross_164 : decode cX3_cross 164 = .ok (.isub, 1) := by decide +kernel
theorem dX3_cross_165 : decode cX3_cross 165 = .ok (.goto 5, 3) := by decide +kernel
theorem dX3_cross_168 : decode cX3_cross 168 = .ok (.iload 5, 2) := by decide +kernel
theorem dX3_cross_170 : decode cX3_cross 170 = .ok (.istore 5, 2) := by decide +kernel
theorem dX3_cross_172 : decode cX3_cross 172 = .ok (.goto 88, 3) := by decide +kernel
theorem dX3_cross_175 : decode cX3_cross 175 = .ok (.iload_n 1, 1) := by decide +kernel
theorem dX3_cross_176 : decode cX3_cross 176 = .ok (.aload_n 0, 1) := by decide +kernel
theorem dX3_cross_177 : decode cX3_cross 177 = .ok (.getfield 74, 3) := by decide +kernel
theorem dX3_cross_180 : decode cX3_cross 180 = .ok (.if_icmp .ge 25, 3) := by decide +kernel
theorem dX3_cross_183 : decode cX3_cross 183 = .ok (.iload 5, 2) := by decide +kernel
theorem dX3_cross_185 : decode cX3_cross 185 = .ok (.ineg, 1) := by decide +kernel
theorem dX3_cross_186 : decode cX3_cross 186 = .ok (.aload_n 0, 1) := by decide +kernel
theorem dX3_cross_187 : decode cX3_cross 187 = .ok (.getfield 22, 3) := by decide +kernel
theorem dX3_cross_190 : decode cX3_cross 190 = .ok (.iload_n 1, 1) := by decide +kernel
theorem dX3_cross_191 : decode cX3_cross 191 = .ok (.iaload, 1) := by decide +kernel
theorem dX3_cross_192 : decode cX3_cross 192 = .ok (.if_icmp .le 13, 3) := by decide +kernel
theorem dX3_cross_195 : decode cX3_cross 195 = .ok (.aload_n 0, 1) := by decide +kernel
theorem dX3_cross_196 : decode cX3_cross 196 = .ok (.getfield 22, 3) := by decide +kernel
theorem dX3_cross_199 : decode cX3_cross 199 = .ok (.iload_n 1, 1) := by decide +kernel
theorem dX3_cross_200 : decode cX3_cross 200 = .ok (.iaload, 1) := by decide +kernel
theorem dX3_cross_201 : decode cX3_cross 201 = .ok (.ineg, 1) := by decide +kernel
theorem dX3_cross_202 : decode cX3_cross 202 = .ok (.goto 5, 3) := by decide +kernel
theorem dX3_cross_205 : decode cX3_cross 205 = .ok (.iload 5, 2) := by decide +kernel
theorem dX3_cross_207 : decode cX3_cross 207 = .ok (.istore 5, 2) := by decide +kernel
theorem dX3_cross_209 : decode cX3_cross 209 = .ok (.iload_n 1, 1) := by decide +kernel
theorem dX3_cross_210 : decode cX3_cross 210 = .ok (.ifCond .le 46, 3) := by decide +kernel
theorem dX3_cross_213 : decode cX3_cross 213 = .ok (.iload 5, 2) := by decide +kernel
theorem dX3_cross_215 : decode cX3_cross 215 = .ok (.ineg, 1) := by decide +kernel
theorem dX3_cross_216 : decode cX3_cross 216 = .ok (.aload_n 0, 1) := by decide +kernel
theorem dX3_cross_217 : decode cX3_cross 217 = .ok (.getfield 7, 3) := by decide +kernel
theorem dX3_cross_220 : decode cX3_cross 220 = .ok (.iload_n 1, 1) := by decide +kernel
theorem dX3_cross_221 : decode cX3_cross 221 = .ok (.iconst 1, 1) := by decide +kernel
theorem dX3_cross_222 : decode cX3_cross 222 = .ok (.isub, 1) := by decide +kernel
theorem dX3_cross_223 : decode cX3_cross 223 = .ok (.iaload, 1) := by decide +kernel
theorem dX3_cross_224 : decode cX3_cross 224 = .ok (.aload_n 0, 1) := by decide +kernel
theorem dX3_cross_225 : decode cX3_cross 225 = .ok (.getfield 22, 3) := by decide +kernel
theorem dX3_cross_228 : decode cX3_cross 228 = .ok (.iload_n 1, 1) := by decide +kernel
theorem dX3_cross_229 : decode cX3_cross 229 = .ok (.iconst 1, 1) := by decide +kernel
theorem dX3_cross_230 : decode cX3_cross 230 = .ok (.isub, 1) := by decide +kernel
theorem dX3_cross_231 : decode cX3_cross 231 = .ok (.iaload, 1) := by decide +kernel
theorem dX3_cross_232 : decode cX3_cross 232 = .ok (.isub, 1) := by decide +kernel
theorem dX3_cross_233 : decode cX3_cross 233 = .ok (.if_icmp .le 23, 3) := by decide +kernel
theorem dX3_cross_236 : decode cX3_cross 236 = .ok (.aload_n 0, 1) := by decide +kernel
theorem dX3_cross_237 : decode cX3_cross 237 = .ok (.getfield 22, 3) := by decide +kernel
theorem dX3_cross_240 : decode cX3_cross 240 = .ok (.iload_n 1, 1) := by decide +kernel
theorem dX3_cross_241 : decode cX3_cross 241 = .ok (.iconst 1, 1) := by decide +kernel
theorem dX3_cross_242 : decode cX3_cross 242 = .ok (.isub, 1) := by decide +kernel
theorem dX3_cross_243 : decode cX3_cross 243 = .ok (.iaload, 1) := by decide +kernel
theorem dX3_cross_244 : decode cX3_cross 244 = .ok (.aload_n 0, 1) := by decide +kernel
theorem dX3_cross_245 : decode cX3_cross 245 = .ok (.getfield 7, 3) := by decide +kernel
theorem dX3_cross_248 : decode cX3_cross 248 = .ok (.iload_n 1, 1) := by decide +kernel
theorem dX3_cross_249 : decode cX3_cross 249 = .ok (.iconst 1, 1) := by decide +kernel
theorem dX3_cross_250 : decode cX3_cross 250 = .ok (.isub, 1) := by decide +kernel
theorem dX3_cross_251 : decode cX3_cross 251 = .ok (.iaload, 1) := by decide +kernel
theorem dX3_cross_252 : decode cX3_cross 252 = .ok (.isub, 1) := by decide +kernel
theorem dX3_cross_253 : decode cX3_cross 253 = .ok (.goto 5, 3) := by decide +kernel
theorem dX3_cross_256 : decode cX3_cross 256 = .ok (.iload 5, 2) := by decide +kernel
theorem dX3_cross_258 : decode cX3_cross 258 = .ok (.istore 5, 2) := by decide +kernel
theorem dX3_cross_260 : decode cX3_cross 260 = .ok (.iload_n 1, 1) := by decide +kernel
theorem dX3_cross_261 : decode cX3_cross 261 = .ok (.ifCond .le 19, 3) := by decide +kernel
theorem dX3_cross_264 : decode cX3_cross 264 = .ok (.aload_n 0, 1) := by decide +kernel
theorem dX3_cross_265 : decode cX3_cross 265 = .ok (.getfield 22, 3) := by decide +kernel
theorem dX3_cross_268 : decode cX3_cross 268 = .ok (.iload_n 1, 1) := by decide +kernel
theorem dX3_cross_269 : decode cX3_cross 269 = .ok (.iconst 1, 1) := by decide +kernel
theorem dX3_cross_270 : decode cX3_cross 270 = .ok (.isub, 1) := by decide +kernel
theorem dX3_cross_271 : decode cX3_cross 271 = .ok (.dup2, 1) := by decide +kernel
theorem dX3_cross_272 : decode cX3_cross 272 = .ok (.iaload, 1) := by decide +kernel
theorem dX3_cross_273 : decode cX3_cross 273 = .ok (.iload 5, 2) := by decide +kernel
theorem dX3_cross_275 : decode cX3_cross 275 = .ok (.isub, 1) := by decide +kernel
theorem dX3_cross_276 : decode cX3_cross 276 = .ok (.iastore, 1) := by decide +kernel
theorem dX3_cross_277 : decode cX3_cross 277 = .ok (.goto 14, 3) := by decide +kernel
theorem dX3_cross_280 : decode cX3_cross 280 = .ok (.aload_n 0, 1) := by decide +kernel
theorem dX3_cross_281 : decode cX3_cross 281 = .ok (.getfield 37, 3) := by decide +kernel
theorem dX3_cross_284 : decode cX3_cross 284 = .ok (.iconst 2, 1) := by decide +kernel
theorem dX3_cross_285 : decode cX3_cross 285 = .ok (.dup2, 1) := by decide +kernel
theorem dX3_cross_286 : decode cX3_cross 286 = .ok (.iaload, 1) := by decide +kernel
theorem dX3_cross_287 : decode cX3_cross 287 = .ok (.iload 5, 2) := by decide +kernel
theorem dX3_cross_289 : decode cX3_cross 289 = .ok (.iadd, 1) := by decide +kernel
theorem dX3_cross_290 : decode cX3_cross 290 = .ok (.iastore, 1) := by decide +kernel
theorem dX3_cross_291 : decode cX3_cross 291 = .ok (.iload_n 1, 1) := by decide +kernel
theorem dX3_cross_292 : decode cX3_cross 292 = .ok (.aload_n 0, 1) := by decide +kernel
theorem dX3_cross_293 : decode cX3_cross 293 = .ok (.getfield 74, 3) := by decide +kernel
theorem dX3_cross_296 : decode cX3_cross 296 = .ok (.if_icmp .ge 17, 3) := by decide +kernel
theorem dX3_cross_299 : decode cX3_cross 299 = .ok (.aload_n 0, 1) := by decide +kernel
theorem dX3_cross_300 : decode cX3_cross 300 = .ok (.getfield 22, 3) := by decide +kernel
theorem dX3_cross_303 : decode cX3_cross 303 = .ok (.iload_n 1, 1) := by decide +kernel
theorem dX3_cross_304 : decode cX3_cross 304 = .ok (.dup2, 1) := by decide +kernel
theorem dX3_cross_305 : decode cX3_cross 305 = .ok (.iaload, 1) := by decide +kernel
theorem dX3_cross_306 : decode cX3_cross 306 = .ok (.iload 5, 2) := by decide +kernel
theorem dX3_cross_308 : decode cX3_cross 308 = .ok (.iadd, 1) := by decide +kernel
theorem dX3_cross_309 : decode cX3_cross 309 = .ok (.iastore, 1) := by decide +kernel
theorem dX3_cross_310 : decode cX3_cross 310 = .ok (.goto 14, 3) := by decide +kernel
theorem dX3_cross_313 : decode cX3_cross 313 = .ok (.aload_n 0, 1) := by decide +kernel
theorem dX3_cross_314 : decode cX3_cross 314 = .ok (.getfield 37, 3) := by decide +kernel
theorem dX3_cross_317 : decode cX3_cross 317 = .ok (.iconst 3, 1) := by decide +kernel
theorem dX3_cross_318 : decode cX3_cross 318 = .ok (.dup2, 1) := by decide +kernel
theorem dX3_cross_319 : decode cX3_cross 319 = .ok (.iaload, 1) := by decide +kernel
theorem dX3_cross_320 : decode cX3_cross 320 = .ok (.iload 5, 2) := by decide +kernel
theorem dX3_cross_322 : decode cX3_cross 322 = .ok (.isub, 1) := by decide +kernel
theorem dX3_cross_323 : decode cX3_cross 323 = .ok (.iastore, 1) := by decide +kernel
theorem dX3_cross_324 : decode cX3_cross 324 = .ok (.return_, 1) := by decide +kernel
theorem dX3_goOn_0 : decode cX3_goOn 0 = .ok (.iconst 5, 1) := by decide +kernel
theorem dX3_goOn_1 : decode cX3_goOn 1 = .ok (.aload_n 0, 1) := by decide +kernel
theorem dX3_goOn_2 : decode cX3_goOn 2 = .ok (.getfield 111, 3) := by decide +kernel
theorem dX3_goOn_5 : decode cX3_goOn 5 = .ok (.imul, 1) := by decide +kernel
theorem dX3_goOn_6 : decode cX3_goOn 6 = .ok (.istore_n 1, 1) := by decide +kernel
theorem dX3_goOn_7 : decode cX3_goOn 7 = .ok (.aload_n 0, 1) := by decide +kernel
theorem dX3_goOn_8 : decode cX3_goOn 8 = .ok (.getfield 40, 3) := by decide +kernel
theorem dX3_goOn_11 : decode cX3_goOn 11 = .ok (.iload_n 1, 1) := by decide +kernel
theorem dX3_goOn_12 : decode cX3_goOn 12 = .ok (.iconst 2, 1) := by decide +kernel
theorem dX3_goOn_13 : decode cX3_goOn 13 = .ok (.iadd, 1) := by decide +kernel
theorem dX3_goOn_14 : decode cX3_goOn 14 = .ok (.iaload, 1) := by decide +kernel
theorem dX3_goOn_15 : decode cX3_goOn 15 = .ok (.aload_n 0, 1) := by decide +kernel
theorem dX3_goOn_16 : decode cX3_goOn 16 = .ok (.getfield 70, 3) := by decide +kernel
theorem dX3_goOn_19 : decode cX3_goOn 19 = .ok (.imul, 1) := by decide +kernel
theorem dX3_goOn_20 : decode cX3_goOn 20 = .ok (.bipush 10, 2) := by decide +kernel
theorem dX3_goOn_22 : decode cX3_goOn 22 = .ok (.idiv, 1) := by decide +kernel
theorem dX3_goOn_23 : decode cX3_goOn 23 = .ok (.istore_n 2, 1) := by decide +kernel
theorem dX3_goOn_24 : decode cX3_goOn 24 = .ok (.iload_n 2, 1) := by decide +kernel
theorem dX3_goOn_25 : decode cX3_goOn 25 = .ok (.aload_n 0, 1) := by decide +kernel
theorem dX3_goOn_26 : decode cX3_goOn 26 = .ok (.getfield 7, 3) := by decide +kernel
theorem dX3_goOn_29 : decode cX3_goOn 29 = .ok (.iconst 0, 1) := by decide +kernel
theorem dX3_goOn_30 : decode cX3_goOn 30 = .ok (.iaload, 1) := by decide +kernel
theorem dX3_goOn_31 : decode cX3_goOn 31 = .ok (.aload_n 0, 1) := by decide +kernel
theorem dX3_goOn_32 : decode cX3_goOn 32 = .ok (.getfield 22, 3) := by decide +kernel
theorem dX3_goOn_35 : decode cX3_goOn 35 = .ok (.iconst 0, 1) := by decide +kernel
theorem dX3_goOn_36 : decode cX3_goOn 36 = .ok (.iaload, 1) := by decide +kernel
theorem dX3_goOn_37 : decode cX3_goOn 37 = .ok (.isub, 1) := by decide +kernel
theorem dX3_goOn_38 : decode cX3_goOn 38 = .ok (.if_icmp .le 19, 3) := by decide +kernel
theorem dX3_goOn_41 : decode cX3_goOn 41 = .ok (.aload_n 0, 1) := by decide +kernel
theorem dX3_goOn_42 : decode cX3_goOn 42 = .ok (.getfield 7, 3) := by decide +kernel
theorem dX3_goOn_45 : decode cX3_goOn 45 = .ok (.iconst 0, 1) := by decide +kernel
theorem dX3_goOn_46 : decode cX3_goOn 46 = .ok (.iaload, 1) := by decide +kernel
theorem dX3_goOn_47 : decode cX3_goOn 47 = .ok (.aload_n 0, 1) := by decide +kernel
theorem dX3_goOn_48 : decode cX3_goOn 48 = .ok (.getfield 22, 3) := by decide +kernel
theorem dX3_goOn_51 : decode cX3_goOn 51 = .ok (.iconst 0, 1) := by decide +kernel
theorem dX3_goOn_52 : decode cX3_goOn 52 = .ok (.iaload, 1) := by decide +kernel
theorem dX3_goOn_53 : decode cX3_goOn 53 = .ok (.isub, 1) := by decide +kernel
theorem dX3_goOn_54 : decode cX3_goOn 54 = .ok (.goto 4, 3) := by decide +kernel
theorem dX3_goOn_57 : decode cX3_goOn 57 = .ok (.iload_n 2, 1) := by decide +kernel
theorem dX3_goOn_58 : decode cX3_goOn 58 = .ok (.istore_n 3, 1) := by decide +kernel
theorem dX3_goOn_59 : decode cX3_goOn 59 = .ok (.aload_n 0, 1) := by decide +kernel
theorem dX3_goOn_60 : decode cX3_goOn 60 = .ok (.getfield 22, 3) := by decide +kernel
theorem dX3_goOn_63 : decode cX3_goOn 63 = .ok (.iconst 0, 1) := by decide +kernel
theorem dX3_goOn_64 : decode cX3_goOn 64 = .ok (.dup2, 1) := by decide +kernel
theorem dX3_goOn_65 : decode cX3_goOn 65 = .ok (.iaload, 1) := by decide +kernel
theorem dX3_goOn_66 : decode cX3_goOn 66 = .ok (.iload_n 3, 1) := by decide +kernel
theorem dX3_goOn_67 : decode cX3_goOn 67 = .ok (.iadd, 1) := by decide +kernel
theorem dX3_goOn_68 : decode cX3_goOn 68 = .ok (.iastore, 1) := by decide +kernel
theorem dX3_goOn_69 : decode cX3_goOn 69 = .ok (.aload_n 0, 1) := by decide +kernel
theorem dX3_goOn_70 : decode cX3_goOn 70 = .ok (.getfield 37, 3) := by decide +kernel
theorem dX3_goOn_73 : decode cX3_goOn 73 = .ok (.iconst 0, 1) := by decide +kernel
theorem dX3_goOn_74 : decode cX3_goOn 74 = .ok (.dup2, 1) := by decide +kernel
theorem dX3_goOn_75 : decode cX3_goOn 75 = .ok (.iaload, 1) := by decide +kernel
theorem dX3_goOn_76 : decode cX3_goOn 76 = .ok (.iload_n 3, 1) := by decide +kernel
theorem dX3_goOn_77 : decode cX3_goOn 77 = .ok (.iadd, 1) := by decide +kernel
theorem dX3_goOn_78 : decode cX3_goOn 78 = .ok (.iastore, 1) := by decide +kernel
theorem dX3_goOn_79 : decode cX3_goOn 79 = .ok (.aload_n 0, 1) := by decide +kernel
theorem dX3_goOn_80 : decode cX3_goOn 80 = .ok (.getfield 37, 3) := by decide +kernel
theorem dX3_goOn_83 : decode cX3_goOn 83 = .ok (.iconst 1, 1) := by decide +kernel
theorem dX3_goOn_84 : decode cX3_goOn 84 = .ok (.dup2, 1) := by decide +kernel
theorem dX3_goOn_85 : decode cX3_goOn 85 = .ok (.iaload, 1) := by decide +kernel
theorem dX3_goOn_86 : decode cX3_goOn 86 = .ok (.iload_n 2, 1) := by decide +kernel
theorem dX3_goOn_87 : decode cX3_goOn 87 = .ok (.iload_n 3, 1) := by decide +kernel
theorem dX3_goOn_88 : decode cX3_goOn 88 = .ok (.isub, 1) := by decide +kernel
theorem dX3_goOn_89 : decode cX3_goOn 89 = .ok (.iadd, 1) := by decide +kernel
theorem dX3_goOn_90 : decode cX3_goOn 90 = .ok (.iastore, 1) := by decide +kernel
theorem dX3_goOn_91 : decode cX3_goOn 91 = .ok (.iconst 0, 1) := by decide +kernel
theorem dX3_goOn_92 : decode cX3_goOn 92 = .ok (.istore 4, 2) := by decide +kernel
theorem dX3_goOn_94 : decode cX3_goOn 94 = .ok (.iload 4, 2) := by decide +kernel
theorem dX3_goOn_96 : decode cX3_goOn 96 = .ok (.aload_n 0, 1) := by decide +kernel
theorem dX3_goOn_97 : decode cX3_goOn 97 = .ok (.getfield 74, 3) := by decide +kernel
theorem dX3_goOn_100 : decode cX3_goOn 100 = .ok (.if_icmp .gt 16, 3) := by decide +kernel
theorem dX3_goOn_103 : decode cX3_goOn 103 = .ok (.aload_n 0, 1) := by decide +kernel
theorem dX3_goOn_104 : decode cX3_goOn 104 = .ok (.iload 4, 2) := by decide +kernel
theorem dX3_goOn_106 : decode cX3_goOn 106 = .ok (.iload_n 1, 1) := by decide +kernel
theorem dX3_goOn_107 : decode cX3_goOn 107 = .ok (.invokevirtual 116, 3) := by decide +kernel
theorem dX3_goOn_110 : decode cX3_goOn 110 = .ok (.iinc 4 1, 3) := by decide +kernel
theorem dX3_goOn_113 : decode cX3_goOn 113 = .ok (.goto (-19), 3) := by decide +kernel
theorem dX3_goOn_116 : decode cX3_goOn 116 = .ok (.aload_n 0, 1) := by decide +kernel
theorem dX3_goOn_117 : decode cX3_goOn 117 = .ok (.getfield 40, 3) := by decide +kernel
theorem dX3_goOn_120 : decode cX3_goOn 120 = .ok (.iload_n 1, 1) := by decide +kernel
theorem dX3_goOn_121 : decode cX3_goOn 121 = .ok (.iconst 1, 1) := by decide +kernel
theorem dX3_goOn_122 : decode cX3_goOn 122 = .ok (.iadd, 1) := by decide +kernel
theorem dX3_goOn_123 : decode cX3_goOn 123 = .ok (.iaload, 1) := by decide +kernel
theorem dX3_goOn_124 : decode cX3_goOn 124 = .ok (.istore 4, 2) := by decide +kernel
theorem dX3_goOn_126 : decode cX3_goOn 126 = .ok (.aload_n 0, 1) := by decide +kernel
theorem dX3_goOn_127 : decode cX3_goOn 127 = .ok (.getfield 40, 3) := by decide +kernel
theorem dX3_goOn_130 : decode cX3_goOn 130 = .ok (.iload_n 1, 1) := by decide +kernel
theorem dX3_goOn_131 : decode cX3_goOn 131 = .ok (.iconst 4, 1) := by decide +kernel
theorem dX3_goOn_132 : decode cX3_goOn 132 = .ok (.iadd, 1) := by decide +kernel
theorem dX3_goOn_133 : decode cX3_goOn 133 = .ok (.iaload, 1) := by decide +kernel
theorem dX3_goOn_134 : decode cX3_goOn 134 = .ok (.istore 5, 2) := by decide +kernel
theorem dX3_goOn_136 : decode cX3_goOn 136 = .ok (.iconst 4, 1) := by decide +kernel
theorem dX3_goOn_137 : decode cX3_goOn 137 = .ok (.iconst 2, 1) := by decide +kernel
theorem dX3_goOn_138 : decode cX3_goOn 138 = .ok (.aload_n 0, 1) := by decide +kernel
theorem dX3_goOn_139 : decode cX3_goOn 139 = .ok (.aload_n 0, 1) := by decide +kernel
theorem dX3_goOn_140 : decode cX3_goOn 140 = .ok (.getfield 74, 3) := by decide +kernel
theorem dX3_goOn_143 : decode cX3_goOn 143 = .ok (.invokevirtual 120, 3) := by decide +kernel
theorem dX3_goOn_146 : decode cX3_goOn 146 = .ok (.imul, 1) := by decide +kernel
theorem dX3_goOn_147 : decode cX3_goOn 147 = .ok (.iadd, 1) := by decide +kernel
theorem dX3_goOn_148 : decode cX3_goOn 148 = .ok (.istore 6, 2) := by decide +kernel
theorem dX3_goOn_150 : decode cX3_goOn 150 = .ok (.iconst 0, 1) := by decide +kernel
theorem dX3_goOn_151 : decode cX3_goOn 151 = .ok (.istore 7, 2) := by decide +kernel
theorem dX3_goOn_153 : decode cX3_goOn 153 = .ok (.iload 7, 2) := by decide +kernel
theorem dX3_goOn_155 : decode cX3_goOn 155 = .ok (.aload_n 0, 1) := by decide +kernel
theorem dX3_goOn_156 : decode cX3_goOn 156 = .ok (.getfield 74, 3) := by decide +kernel
theorem dX3_goOn_159 : decode cX3_goOn 159 = .ok (.if_icmp .ge 193, 3) := by decide +kernel
theorem dX3_goOn_162 : decode cX3_goOn 162 = .ok (.aload_n 0, 1) := by decide +kernel
theorem dX3_goOn_163 : decode cX3_goOn 163 = .ok (.getfield 31, 3) := by decide +kernel
theorem dX3_goOn_166 : decode cX3_goOn 166 = .ok (.iload 7, 2) := by decide +kernel
theorem dX3_goOn_168 : decode cX3_goOn 168 = .ok (.iload 4, 2) := by decide +kernel
theorem dX3_goOn_170 : decode cX3_goOn 170 = .ok (.iload 5, 2) := by decide +kernel
theorem dX3_goOn_172 : decode cX3_goOn 172 = .ok (.iload 4, 2) := by decide +kernel
theorem dX3_goOn_174 : decode cX3_goOn 174 = .ok (.isub, 1) := by decide +kernel
theorem dX3_goOn_175 : decode cX3_goOn 175 = .ok (.iconst 2, 1) := by decide +kernel
theorem dX3_goOn_176 : decode cX3_goOn 176 = .ok (.iconst 2, 1) := by decide +kernel
theorem dX3_goOn_177 : decode cX3_goOn 177 = .ok (.aload_n 0, 1) := by decide +kernel
theorem dX3_goOn_178 : decode cX3_goOn 178 = .ok (.iload 7, 2) := by decide +kernel
theorem dX3_goOn_180 : decode cX3_goOn 180 = .ok (.invokevirtual 120, 3) := by decide +kernel
theorem dX3_goOn_183 : decode cX3_goOn 183 = .ok (.imul, 1) := by decide +kernel
theorem dX3_goOn_184 : decode cX3_goOn 184 = .ok (.iadd, 1) := by decide +kernel
theorem dX3_goOn_185 : decode cX3_goOn 185 = .ok (.aload_n 0, 1) := by decide +kernel
theorem dX3_goOn_186 : decode cX3_goOn 186 = .ok (.getfield 16, 3) := by decide +kernel
theorem dX3_goOn_189 : decode cX3_goOn 189 = .ok (.iload 7, 2) := by decide +kernel
theorem dX3_goOn_191 : decode cX3_goOn 191 = .ok (.iaload, 1) := by decide +kernel
theorem dX3_goOn_192 : decode cX3_goOn 192 = .ok (.iadd, 1) := by decide +kernel
theorem dX3_goOn_193 : decode cX3_goOn 193 = .ok (.imul, 1) := by decide +kernel
theorem dX3_goOn_194 : decode cX3_goOn 194 = .ok (.iload 6, 2) := by decide +kernel
theorem dX3_goOn_196 : decode cX3_goOn 196 = .ok (.invokestatic 123, 3) := by decide +kernel
theorem dX3_goOn_199 : decode cX3_goOn 199 = .ok (.iadd, 1) := by decide +kernel
theorem dX3_goOn_200 : decode cX3_goOn 200 = .ok (.iastore, 1) := by decide +kernel
theorem dX3_goOn_201 : decode cX3_goOn 201 = .ok (.aload_n 0, 1) := by decide +kernel
theorem dX3_goOn_202 : decode cX3_goOn 202 = .ok (.getfield 25, 3) := by decide +kernel
theorem dX3_goOn_205 : decode cX3_goOn 205 = .ok (.iload 7, 2) := by decide +kernel
theorem dX3_goOn_207 : decode cX3_goOn 207 = .ok (.dup2, 1) := by decide +kernel
theorem dX3_goOn_208 : decode cX3_goOn 208 = .ok (.iaload, 1) := by decide +kernel
theorem dX3_goOn_209 : decode cX3_goOn 209 = .ok (.aload_n 0, 1) := by decide +kernel
theorem dX3_goOn_210 : decode cX3_goOn 210 = .ok (.getfield 31, 3) := by decide +kernel
theorem dX3_goOn_213 : decode cX3_goOn 213 = .ok (.iload 7, 2) := by decide +kernel
theorem dX3_goOn_215 : decode cX3_goOn 215 = .ok (.iaload, 1) := by decide +kernel
theorem dX3_goOn_216 : decode cX3_goOn 216 = .ok (.ifCond .ge 30, 3) := by decide +kernel
theorem dX3_goOn_219 : decode cX3_goOn 219 = .ok (.bipush 10, 2) := by decide +kernel
theorem dX3_goOn_221 : decode cX3_goOn 221 = .ok (.aload_n 0, 1) := by decide +kernel
theorem dX3_goOn_222 : decode cX3_goOn 222 = .ok (.getfield 22, 3) := by decide +kernel
theorem dX3_goOn_225 : decode cX3_goOn 225 = .ok (.iload 7, 2) := by decide +kernel
theorem dX3_goOn_227 : decode cX3_goOn 227 = .ok (.iaload, 1) := by decide +kernel
theorem dX3_goOn_228 : decode cX3_goOn 228 = .ok (.imul, 1) := by decide +kernel
theorem dX3_goOn_229 : decode cX3_goOn 229 = .ok (.bipush 9, 2) := by decide +kernel
theorem dX3_goOn_231 : decode cX3_goOn 231 = .ok (.aload_n 0, 1) := by decide +kernel
theorem dX3_goOn_232 : decode cX3_goOn 232 = .ok (.getfield 7, 3) := by decide +kernel
theorem dX3_goOn_235 : decode cX3_goOn 235 = .ok (.iload 7, 2) := by decide +kernel
theorem dX3_goOn_237 : decode cX3_goOn 237 = .ok (.iaload, 1) := by decide +kernel
theorem dX3_goOn_238 : decode cX3_goOn 238 = .ok (.imul, 1) := by decide +kernel
theorem dX3_goOn_239 : decode cX3_goOn 239 = .ok (.if_icmp .le 7, 3) := by decide +kernel
theorem dX3_goOn_242 : decode cX3_goOn 242 = .ok (.iconst 1, 1) := by decide +kernel
theorem dX3_goOn_243 : decode cX3_goOn 243 = .ok (.goto 4, 3) := by decide +kernel
theorem dX3_goOn_246 : decode cX3_goOn 246 = .ok (.iconst 0, 1) := by decide +kernel
theorem dX3_goOn_247 : decode cX3_goOn 247 = .ok (.iadd, 1) := by decide +kernel
theorem dX3_goOn_248 : decode cX3_goOn 248 = .ok (.iastore, 1) := by decide +kernel
theorem dX3_goOn_249 : decode cX3_goOn 249 = .ok (.aload_n 0, 1) := by decide +kernel
theorem dX3_goOn_250 : decode cX3_goOn 250 = .ok (.iload 7, 2) := by decide +kernel
theorem dX3_goOn_252 : decode cX3_goOn 252 = .ok (.invokevirtual 96, 3) := by decide +kernel
theorem dX3_goOn_255 : decode cX3_goOn 255 = .ok (.sipush 800, 3) := by decide +kernel
theorem dX3_goOn_258 : decode cX3_goOn 258 = .ok (.if_icmp .lt 18, 3) := by decide +kernel
theorem dX3_goOn_261 : decode cX3_goOn 261 = .ok (.aload_n 0, 1) := by decide +kernel
theorem dX3_goOn_262 : decode cX3_goOn 262 = .ok (.getfield 31, 3) := by decide +kernel
theorem dX3_goOn_265 : decode cX3_goOn 265 = .ok (.iload 7, 2) := by decide +kernel
theorem dX3_goOn_267 : decode cX3_goOn 267 = .ok (.iaload, 1) := by decide +kernel
theorem dX3_goOn_268 : decode cX3_goOn 268 = .ok (.iconst 5, 1) := by decide +kernel
theorem dX3_goOn_269 : decode cX3_goOn 269 = .ok (.if_icmp .lt 7, 3) := by decide +kernel
theorem dX3_goOn_272 : decode cX3_goOn 272 = .ok (.iconst 1, 1) := by decide +kernel
theorem dX3_goOn_273 : decode cX3_goOn 273 = .ok (.goto 4, 3) := by decide +kernel
theorem dX3_goOn_276 : decode cX3_goOn 276 = .ok (.iconst 0, 1) := by decide +kernel
theorem dX3_goOn_277 : decode cX3_goOn 277 = .ok (.istore 8, 2) := by decide +kernel
theorem dX3_goOn_279 : decode cX3_goOn 279 = .ok (.aload_n 0, 1) := by decide +kernel
theorem dX3_goOn_280 : decode cX3_goOn 280 = .ok (.getfield 28, 3) := by decide +kernel
theorem dX3_goOn_283 : decode cX3_goOn 283 = .ok (.iload 7, 2) := by decide +kernel
theorem dX3_goOn_285 : decode cX3_goOn 285 = .ok (.dup2, 1) := by decide +kernel
theorem dX3_goOn_286 : decode cX3_goOn 286 = .ok (.iaload, 1) := by decide +kernel
theorem dX3_goOn_287 : decode cX3_goOn 287 = .ok (.iload 8, 2) := by decide +kernel
theorem dX3_goOn_289 : decode cX3_goOn 289 = .ok (.ifCond .eq 7, 3) := by decide +kernel
theorem dX3_goOn_292 : decode cX3_goOn 292 = .ok (.iconst 1, 1) := by decide +kernel
theorem dX3_goOn_293 : decode cX3_goOn 293 = .ok (.goto 4, 3) := by decide +kernel
theorem dX3_goOn_296 : decode cX3_goOn 296 = .ok (.iconst (-1), 1) := by decide +kernel
theorem dX3_goOn_297 : decode cX3_goOn 297 = .ok (.iadd, 1) := by decide +kernel
theorem dX3_goOn_298 : decode cX3_goOn 298 = .ok (.iastore, 1) := by decide +kernel
theorem dX3_goOn_299 : decode cX3_goOn 299 = .ok (.aload_n 0, 1) := by decide +kernel
theorem dX3_goOn_300 : decode cX3_goOn 300 = .ok (.getfield 28, 3) := by decide +kernel
theorem dX3_goOn_303 : decode cX3_goOn 303 = .ok (.iload 7, 2) := by decide +kernel
theorem dX3_goOn_305 : decode cX3_goOn 305 = .ok (.aload_n 0, 1) := by decide +kernel
theorem dX3_goOn_306 : decode cX3_goOn 306 = .ok (.getfield 28, 3) := by decide +kernel
theorem dX3_goOn_309 : decode cX3_goOn 309 = .ok (.iload 7, 2) := by decide +kernel
theorem dX3_goOn_311 : decode cX3_goOn 311 = .ok (.iaload, 1) := by decide +kernel
theorem dX3_goOn_312 : decode cX3_goOn 312 = .ok (.ifCond .ge 7, 3) := by decide +kernel
theorem dX3_goOn_315 : decode cX3_goOn 315 = .ok (.iconst 0, 1) := by decide +kernel
theorem dX3_goOn_316 : decode cX3_goOn 316 = .ok (.goto 29, 3) := by decide +kernel
theorem dX3_goOn_319 : decode cX3_goOn 319 = .ok (.aload_n 0, 1) := by decide +kernel
theorem dX3_goOn_320 : decode cX3_goOn 320 = .ok (.getfield 28, 3) := by decide +kernel
theorem dX3_goOn_323 : decode cX3_goOn 323 = .ok (.iload 7, 2) := by decide +kernel
theorem dX3_goOn_325 : decode cX3_goOn 325 = .ok (.iaload, 1) := by decide +kernel
theorem dX3_goOn_326 : decode cX3_goOn 326 = .ok (.sipush 1000, 3) := by decide +kernel
theorem dX3_goOn_329 : decode cX3_goOn 329 = .ok (.if_icmp .le 9, 3) := by decide +kernel
theorem dX3_goOn_332 : decode cX3_goOn 332 = .ok (.sipush 1000, 3) := by decide +kernel
theorem dX3_goOn_335 : decode cX3_goOn 335 = .ok (.goto 10, 3) := by decide +kernel
theorem dX3_goOn_338 : decode cX3_goOn 338 = .ok (.aload_n 0, 1) := by decide +kernel
theorem dX3_goOn_339 : decode cX3_goOn 339 = .ok (.getfield 28, 3) := by decide +kernel
theorem dX3_goOn_342 : decode cX3_goOn 342 = .ok (.iload 7, 2) := by decide +kernel
theorem dX3_goOn_344 : decode cX3_goOn 344 = .ok (.iaload, 1) := by decide +kernel
theorem dX3_goOn_345 : decode cX3_goOn 345 = .ok (.iastore, 1) := by decide +kernel
theorem dX3_goOn_346 : decode cX3_goOn 346 = .ok (.iinc 7 1, 3) := by decide +kernel
theorem dX3_goOn_349 : decode cX3_goOn 349 = .ok (.goto (-196), 3) := by decide +kernel
theorem dX3_goOn_352 : decode cX3_goOn 352 = .ok (.aload_n 0, 1) := by decide +kernel
theorem dX3_goOn_353 : decode cX3_goOn 353 = .ok (.aload_n 0, 1) := by decide +kernel
theorem dX3_goOn_354 : decode cX3_goOn 354 = .ok (.getfield 111, 3) := by decide +kernel
theorem dX3_goOn_357 : decode cX3_goOn 357 = .ok (.iconst 1, 1) := by decide +kernel
theorem dX3_goOn_358 : decode cX3_goOn 358 = .ok (.iadd, 1) := by decide +kernel
theorem dX3_goOn_359 : decode cX3_goOn 359 = .ok (.aload_n 0, 1) := by decide +kernel
theorem dX3_goOn_360 : decode cX3_goOn 360 = .ok (.getfield 108, 3) := by decide +kernel
theorem dX3_goOn_363 : decode cX3_goOn 363 = .ok (.irem, 1) := by decide +kernel
theorem dX3_goOn_364 : decode cX3_goOn 364 = .ok (.putfield 111, 3) := by decide +kernel
theorem dX3_goOn_367 : decode cX3_goOn 367 = .ok (.return_, 1) := by decide +kernel
theorem dX3_mayGo_0 : decode cX3_mayGo 0 = .ok (.aload_n 0, 1) := by decide +kernel
theorem dX3_mayGo_1 : decode cX3_mayGo 1 = .ok (.getfield 74, 3) := by decide +kernel
theorem dX3_mayGo_4 : decode cX3_mayGo 4 = .ok (.ifCond .le 14, 3) := by decide +kernel
theorem dX3_mayGo_7 : decode cX3_mayGo 7 = .ok (.aload_n 0, 1) := by decide +kernel
theorem dX3_mayGo_8 : decode cX3_mayGo 8 = .ok (.getfield 108, 3) := by decide +kernel
theorem dX3_mayGo_11 : decode cX3_mayGo 11 = .ok (.ifCond .le 7, 3) := by decide +kernel
theorem dX3_mayGo_14 : decode cX3_mayGo 14 = .ok (.iconst 1, 1) := by decide +kernel
theorem dX3_mayGo_15 : decode cX3_mayGo 15 = .ok (.goto 4, 3) := by decide +kernel
theorem dX3_mayGo_18 : decode cX3_mayGo 18 = .ok (.iconst 0, 1) := by decide +kernel
theorem dX3_mayGo_19 : decode cX3_mayGo 19 = .ok (.ireturn, 1) := by decide +kernel
theorem dX3_pass_0 : decode cX3_pass 0 = .ok (.iload_n 1, 1) := by decide +kernel
theorem dX3_pass_1 : decode cX3_pass 1 = .ok (.i2l, 1) := by decide +kernel
theorem dX3_pass_2 : decode cX3_pass 2 = .ok (.lconst 1, 1) := by decide +kernel
theorem dX3_pass_3 : decode cX3_pass 3 = .ok (.ldc2_w 126, 3) := by decide +kernel
theorem dX3_pass_6 : decode cX3_pass 6 = .ok (.invokestatic 77, 3) := by decide +kernel
theorem dX3_pass_9 : decode cX3_pass 9 = .ok (.ifCond .ne 6, 3) := by decide +kernel
theorem dX3_pass_12 : decode cX3_pass 12 = .ok (.bipush (-102), 2) := by decide +kernel
theorem dX3_pass_14 : decode cX3_pass 14 = .ok (.ireturn, 1) := by decide +kernel
theorem dX3_pass_15 : decode cX3_pass 15 = .ok (.aload_n 0, 1) := by decide +kernel
theorem dX3_pass_16 : decode cX3_pass 16 = .ok (.invokevirtual 128, 3) := by decide +kernel
theorem dX3_pass_19 : decode cX3_pass 19 = .ok (.ifCond .ne 6, 3) := by decide +kernel
theorem dX3_pass_22 : decode cX3_pass 22 = .ok (.bipush (-103), 2) := by decide +kernel
theorem dX3_pass_24 : decode cX3_pass 24 = .ok (.ireturn, 1) := by decide +kernel
theorem dX3_pass_25 : decode cX3_pass 25 = .ok (.iconst 0, 1) := by decide +kernel
theorem dX3_pass_26 : decode cX3_pass 26 = .ok (.istore_n 2, 1) := by decide +kernel
theorem dX3_pass_27 : decode cX3_pass 27 = .ok (.iload_n 2, 1) := by decide +kernel
theorem dX3_pass_28 : decode cX3_pass 28 = .ok (.iload_n 1, 1) := by decide +kernel
theorem dX3_pass_29 : decode cX3_pass 29 = .ok (.if_icmp .ge 13, 3) := by decide +kernel
theorem dX3_pass_32 : decode cX3_pass 32 = .ok (.aload_n 0, 1) := by decide +kernel
theorem dX3_pass_33 : decode cX3_pass 33 = .ok (.invokevirtual 132, 3) := by decide +kernel
theorem dX3_pass_36 : decode cX3_pass 36 = .ok (.iinc 2 1, 3) := by decide +kernel
theorem dX3_pass_39 : decode cX3_pass 39 = .ok (.goto (-12), 3) := by decide +kernel
theorem dX3_pass_42 : decode cX3_pass 42 = .ok (.aload_n 0, 1) := by decide +kernel
theorem dX3_pass_43 : decode cX3_pass 43 = .ok (.getfield 111, 3) := by decide +kernel
theorem dX3_pass_46 : decode cX3_pass 46 = .ok (.ireturn, 1) := by decide +kernel
theorem dX3_steady_0 : decode cX3_steady 0 = .ok (.iload_n 1, 1) := by decide +kernel
theorem dX3_steady_1 : decode cX3_steady 1 = .ok (.i2l, 1) := by decide +kernel
theorem dX3_steady_2 : decode cX3_steady 2 = .ok (.lconst 1, 1) := by decide +kernel
theorem dX3_steady_3 : decode cX3_steady 3 = .ok (.ldc2_w 135, 3) := by decide +kernel
theorem dX3_steady_6 : decode cX3_steady 6 = .ok (.invokestatic 77, 3) := by decide +kernel
theorem dX3_steady_9 : decode cX3_steady 9 = .ok (.ifCond .ne 6, 3) := by decide +kernel
theorem dX3_steady_12 : decode cX3_steady 12 = .ok (.bipush (-102), 2) := by decide +kernel
theorem dX3_steady_14 : decode cX3_steady 14 = .ok (.ireturn, 1) := by decide +kernel
theorem dX3_steady_15 : decode cX3_steady 15 = .ok (.aload_n 0, 1) := by decide +kernel
theorem dX3_steady_16 : decode cX3_steady 16 = .ok (.invokevirtual 128, 3) := by decide +kernel
theorem dX3_steady_19 : decode cX3_steady 19 = .ok (.ifCond .eq 10, 3) := by decide +kernel
theorem dX3_steady_22 : decode cX3_steady 22 = .ok (.aload_n 0, 1) := by decide +kernel
theorem dX3_steady_23 : decode cX3_steady 23 = .ok (.getfield 111, 3) := by decide +kernel
theorem dX3_steady_26 : decode cX3_steady 26 = .ok (.ifCond .eq 6, 3) := by decide +kernel
theorem dX3_steady_29 : decode cX3_steady 29 = .ok (.bipush (-103), 2) := by decide +kernel
theorem dX3_steady_31 : decode cX3_steady 31 = .ok (.ireturn, 1) := by decide +kernel
theorem dX3_steady_32 : decode cX3_steady 32 = .ok (.iconst 1, 1) := by decide +kernel
theorem dX3_steady_33 : decode cX3_steady 33 = .ok (.istore_n 2, 1) := by decide +kernel
theorem dX3_steady_34 : decode cX3_steady 34 = .ok (.iload_n 2, 1) := by decide +kernel
theorem dX3_steady_35 : decode cX3_steady 35 = .ok (.iload_n 1, 1) := by decide +kernel
theorem dX3_steady_36 : decode cX3_steady 36 = .ok (.if_icmp .gt 110, 3) := by decide +kernel
theorem dX3_steady_39 : decode cX3_steady 39 = .ok (.iconst 0, 1) := by decide +kernel
theorem dX3_steady_40 : decode cX3_steady 40 = .ok (.istore_n 3, 1) := by decide +kernel
theorem dX3_steady_41 : decode cX3_steady 41 = .ok (.iload_n 3, 1) := by decide +kernel
theorem dX3_steady_42 : decode cX3_steady 42 = .ok (.aload_n 0, 1) := by decide +kernel
theorem dX3_steady_43 : decode cX3_steady 43 = .ok (.getfield 74, 3) := by decide +kernel
theorem dX3_steady_46 : decode cX3_steady 46 = .ok (.if_icmp .ge 21, 3) := by decide +kernel
theorem dX3_steady_49 : decode cX3_steady 49 = .ok (.aload_n 0, 1) := by decide +kernel
theorem dX3_steady_50 : decode cX3_steady 50 = .ok (.getfield 43, 3) := by decide +kernel
theorem dX3_steady_53 : decode cX3_steady 53 = .ok (.iload_n 3, 1) := by decide +kernel
theorem dX3_steady_54 : decode cX3_steady 54 = .ok (.aload_n 0, 1) := by decide +kernel
theorem dX3_steady_55 : decode cX3_steady 55 = .ok (.getfield 22, 3) := by decide +kernel
theorem dX3_steady_58 : decode cX3_steady 58 = .ok (.iload_n 3, 1) := by decide +kernel
theorem dX3_steady_59 : decode cX3_steady 59 = .ok (.iaload, 1) := by decide +kernel
theorem dX3_steady_60 : decode cX3_steady 60 = .ok (.iastore, 1) := by decide +kernel
theorem dX3_steady_61 : decode cX3_steady 61 = .ok (.iinc 3 1, 3) := by decide +kernel
theorem dX3_steady_64 : decode cX3_steady 64 = .ok (.goto (-23), 3) := by decide +kernel
theorem dX3_steady_67 : decode cX3_steady 67 = .ok (.iconst 0, 1) := by decide +kernel
theorem dX3_steady_68 : decode cX3_steady 68 = .ok (.istore_n 3, 1) := by decide +kernel
theorem dX3_steady_69 : decode cX3_steady 69 = .ok (.iload_n 3, 1) := by decide +kernel
theorem dX3_steady_70 : decode cX3_steady 70 = .ok (.aload_n 0, 1) := by decide +kernel
theorem dX3_steady_71 : decode cX3_steady 71 = .ok (.getfield 108, 3) := by decide +kernel
theorem dX3_steady_74 : decode cX3_steady 74 = .ok (.if_icmp .ge 13, 3) := by decide +kernel
theorem dX3_steady_77 : decode cX3_steady 77 = .ok (.aload_n 0, 1) := by decide +kernel
theorem dX3_steady_78 : decode cX3_steady 78 = .ok (.invokevirtual 132, 3) := by decide +kernel
theorem dX3_steady_81 : decode cX3_steady 81 = .ok (.iinc 3 1, 3) := by decide +kernel
theorem dX3_steady_84 : decode cX3_steady 84 = .ok (.goto (-15), 3) := by decide +kernel
theorem dX3_steady_87 : decode cX3_steady 87 = .ok (.iconst 1, 1) := by decide +kernel
theorem dX3_steady_88 : decode cX3_steady 88 = .ok (.istore_n 3, 1) := by decide +kernel
theorem dX3_steady_89 : decode cX3_steady 89 = .ok (.iconst 0, 1) := by decide +kernel
theorem dX3_steady_90 : decode cX3_steady 90 = .ok (.istore 4, 2) := by decide +kernel
theorem dX3_steady_92 : decode cX3_steady 92 = .ok (.iload 4, 2) := by decide +kernel
theorem dX3_steady_94 : decode cX3_steady 94 = .ok (.aload_n 0, 1) := by decide +kernel
theorem dX3_steady_95 : decode cX3_steady 95 = .ok (.getfield 74, 3) := by decide +kernel
theorem dX3_steady_98 : decode cX3_steady 98 = .ok (.if_icmp .ge 36, 3) := by decide +kernel
theorem dX3_steady_101 : decode cX3_steady 101 = .ok (.iload_n 3, 1) := by decide +kernel
theorem dX3_steady_102 : decode cX3_steady 102 = .ok (.ifCond .eq 24, 3) := by decide +kernel
theorem dX3_steady_105 : decode cX3_steady 105 = .ok (.aload_n 0, 1) := by decide +kernel
